/-! WHO WINS, THE CHANCE, A GAME: the model; a game of the class -/
section MOG
variable {ad : Nat → Nat} {d s a e : Nat} {m m' m0 : Wm} {g : GS} {v : EV} {S : List Nat}
theorem powerM (w : WT m) (h : HM (nE v) m g) (hE : EM m v) (hs : s < nE v) : Ct ad μX12_power (d + 168) [.ref (ad 187), .int (nI s)] m (fun r m' => WT m' ∧ Fx (RS [22, 28]) m m' ∧ r = some (.int (pwG v g s))) := by
  have hn8 := hE.2.2.1
  refine (power_ok (d := d) w (by omega)).to ?_
  rintro r m1 ⟨w1, f1, rfl⟩
  refine ⟨w1, f1, ?_⟩
  obtain ⟨e1, e2, e3, e4, e5, e6, e7, e8, e9⟩ := hE
  have : pwM m s = pwG v g s := by
    unfold pwM pwG
    rw [e7, e2, nI_clamp (by omega), nI_clamp (by omega)]
    exact pwF_ch e4 e9 (fun k a b => h.1 k (by omega)) (h.2.1 s hs) (h.2.2.1 s hs)
  rw [this]
theorem winnerM (w : WT m) (h : HM (nE v) m g) (hE : EM m v) (ha : a < nE v) (he : e < nE v) {th : Int32} : Ct ad μX12_winner (d + 169) [.ref (ad 187), .int (nI a), .int (nI e), .int th] m (fun r m' => WT m' ∧ Fx (RS [22, 28]) m m' ∧ r = some (.int (wnG v g a e th))) := by
  have e33 : (3 : Int32).toNatClampNeg = 3 := rfl
  refine v_X12_winner (d := d + 168) ⟨fun n1 => ⟨fun n2 => ⟨fun n3 => (powerM (d := d) w h hE ha).to ?_, fun q => ⟨w, Fx.rf, ?_⟩⟩, fun q => ⟨w, Fx.rf, ?_⟩⟩, fun q => ⟨w, Fx.rf, ?_⟩⟩
  · rintro _ m1 ⟨w1, f1, rfl⟩
    have H1 := h.fx f1 rfl rfl
    have E1 := hE.fx f1 rfl
    refine ⟨_, rfl, (powerM (d := d) w1 H1 E1 he).to ?_⟩
    rintro _ m2 ⟨w2, f2, rfl⟩
    refine ⟨_, rfl, ?_⟩
    have f12 : Fx (RS [22, 28]) m m2 := f1.tr f2 (fun _ _ h => h)
    have hwn : wnG v g a e th = rsG v (pwG v g a - pwG v g e) := by
      unfold wnG
      rw [if_neg n1, if_neg n2, if_neg n3]
    rw [e33, (E1.fx f2 rfl).2.2.2.2.1 3 (by decide), hwn]
    unfold rsG
    exact ⟨fun c => ⟨fun c2 => ⟨w2, f12, by rw [if_pos c, if_pos c2]⟩, fun c2 => ⟨w2, f12, by rw [if_pos c, if_neg c2]⟩⟩, fun c => ⟨w2, f12, by rw [if_neg c]⟩⟩
  · unfold wnG; rw [if_neg n1, if_neg n2, if_pos q]
  · unfold wnG; rw [if_neg n1, if_pos q]
  · unfold wnG; rw [if_pos q]
theorem chanceM (w : WT m) (h : HM (nE v) m g) (hE : EM m v) (ha : a < nE v) (he : e < nE v) : Ct ad μX12_chanceOf (d + 169) [.ref (ad 187), .int (nI a), .int (nI e)] m (fun r m' => WT m' ∧ Fx (RS [22, 28]) m m' ∧ r = some (.int (chG v g a e))) := by
  have e44 : (4 : Int32).toNatClampNeg = 4 := rfl
  refine v_X12_chanceOf (d := d + 168) ((powerM (d := d) w h hE ha).to ?_)
  rintro _ m1 ⟨w1, f1, rfl⟩
  have H1 := h.fx f1 rfl rfl
  have E1 := hE.fx f1 rfl
  refine ⟨_, rfl, (powerM (d := d) w1 H1 E1 he).to ?_⟩
  rintro _ m2 ⟨w2, f2, rfl⟩
  refine ⟨_, rfl, w2, f1.tr f2 (fun _ _ h => h), ?_⟩
  rw [e44, hE.2.2.2.2.1 4 (by decide)]
  rfl
theorem chG_lu {x : Int32} : chG v (g.1, g.2.1, g.2.2.1, g.2.2.2.1, x) a e = chG v g a e := by
  unfold chG pwG
  dsimp only
theorem goGameM (w : WT m) (h : HM (nE v) m g) (hE : EM m v) (ha : a < nE v) (he : e < nE v) (hae : a ≠ e) {th x4 : Int32} (ht : th = 0 ∨ th = 1 ∨ th = 2 ∨ th = 3) {lk : Bool} (hl : x4 = 0 ↔ lk = false) :
    Ct ad μX12_goGame (d + 170) [.ref (ad 187), .int (nI a), .int (nI e), .int th, .int x4] m (fun r m' => WT m' ∧ Fx (RS [22, 24, 28, 49]) m m' ∧ r = some (.int (wonG lk v a e th g)) ∧ HM (nE v) m' (goG lk v a e th g)) := by
  have e44 : (4 : Int32).toNatClampNeg = 4 := rfl
  have fin : ∀ (x : Int32) (g1 : GS) (m1 : Wm), WT m1 → Fx (RS [22, 24, 28, 49]) m m1 → HM (nE v) m1 g1 → AW ad E0 μX12_goGame (d + 169 + 1) (fun r m' => WT m' ∧ Fx (RS [22, 24, 28, 49]) m m' ∧ r = some (.int x) ∧ HM (nE v) m' (stlG true v a e x (thG th a e g1))) 46 [(0, .ref (ad 187)), (1, .int (nI a)), (2, .int (nI e)), (3, .int th)] [.int x] m1 := by
    intro x g1 m1 w1 f1 H1
    refine g_X12_goGame_46 ((settleM (d := d + 166) w1 H1 (hE.fx f1 rfl) ha he hae ht).to ?_)
    rintro _ m2 ⟨rfl, w2, f2, H2⟩
    exact ⟨rfl, w2, f1.tr f2 (RS_sub rfl), rfl, H2⟩
  have plain : ¬ byG lk v th → Ct ad μX12_winner (d + 169) [.ref (ad 187), .int (nI a), .int (nI e), .int th] m (fun r m1 => ∃ x : Int32, r = some (.int x) ∧ AW ad E0 μX12_goGame (d + 169 + 1) (fun r m' => WT m' ∧ Fx (RS [22, 24, 28, 49]) m m' ∧ r = some (.int (wonG lk v a e th g)) ∧ HM (nE v) m' (goG lk v a e th g)) 46 [(0, .ref (ad 187)), (1, .int (nI a)), (2, .int (nI e)), (3, .int th)] [.int x] m1) := fun hn => by
    refine (winnerM (d := d) w h hE ha he).to ?_
    rintro _ m1 ⟨w1, f1, rfl⟩
    refine ⟨_, rfl, ?_⟩
    have := fin (wnG v g a e th) g m1 w1 (Fx.tr Fx.rf f1 (RS_sub rfl)) (h.fx f1 rfl rfl)
    unfold goG wonG drwG
    rw [if_neg hn, if_neg hn]
    exact this
  refine v_X12_goGame (d := d + 169) ⟨fun q => plain (fun z => by have := hl.mp q; rw [this] at z; exact absurd z.1 (by decide)), fun q => ?_⟩
  rw [e44, hE.2.2.2.2.1 4 (by decide)]
  refine ⟨fun c => plain (fun z => z.2.1 c), fun c => ⟨fun n0 => plain (fun z => n0 z.2.2), fun q0 => ?_⟩⟩
  have hlk : lk = true := by
    cases z : lk with
    | true => rfl
    | false => exact absurd (hl.mpr z) q
  have hby : byG lk v th := ⟨hlk, c, q0⟩
  refine v_X12_drawHundred ?_
  have el : (uI m 187 8 (m.1 187 8 * 1103515245 + 12345)).1 187 8 = luG g.2.2.2.2 := by
    rw [u_eq, h.2.2.2.2]
    rfl
  rw [el]
  have w1 : WT (uI m 187 8 (m.1 187 8 * 1103515245 + 12345)) := w.n rfl
  have f1 : Fx (RS [22, 24, 28, 49]) m (uI m 187 8 (m.1 187 8 * 1103515245 + 12345)) := Fx.rf.i rfl
  have H1 : HM (nE v) (uI m 187 8 (m.1 187 8 * 1103515245 + 12345)) (g.1, g.2.1, g.2.2.1, g.2.2.2.1, luG g.2.2.2.2) := ⟨h.1, h.2.1, h.2.2.1, h.2.2.2.1, el⟩
  refine ⟨_, rfl, (chanceM (d := d) w1 H1 (hE.fx f1 rfl) ha he).to ?_⟩
  rintro _ m2 ⟨w2, f2, rfl⟩
  have f12 : Fx (RS [22, 24, 28, 49]) m m2 := f1.tr f2 (RS_sub rfl)
  have H2 := H1.fx f2 rfl rfl
  have hc : chG v (g.1, g.2.1, g.2.2.1, g.2.2.2.1, luG g.2.2.2.2) a e = chG v g a e := chG_lu
  rw [hc]
  unfold goG wonG drwG
  rw [if_pos hby, if_pos hby]
  refine ⟨_, rfl, fun c2 => ?_, fun c2 => ?_⟩
  · rw [if_pos (show chG v g a e ≤ hdG (luG g.2.2.2.2) from c2)]
    exact fin 1 _ m2 w2 f12 H2
  · rw [if_neg (show ¬ chG v g a e ≤ hdG (luG g.2.2.2.2) from c2)]
    exact fin 0 _ m2 w2 f12 H2
end MOG
section PLC
variable {ad : Nat → Nat} {d a e b0 b1 ρ0 ρ1 : Nat} {m m' m0 : Wm} {g : GS} {v : EV} {S : List Nat}
theorem copyC (w : WT m) (hb0 : SS b0 ρ0) (hb1 : SS b1 ρ1) (hd : b1 + 4 < b0 ∨ b0 + 4 < b1) (h : HC b1 m g) : Ct ad μX8_copy (d + 1) [.ref (ad b0), .ref (ad b1)] m (fun r m' => r = none ∧ WT m' ∧ Fx (RS [ρ0]) m m' ∧ HC b0 m' g) := by
  refine (e_copy w hb0 hb1 hd).to ?_
  rintro r m1 ⟨w1, f1, rfl, k1, k2, k3⟩
  exact ⟨rfl, w1, f1, fun k hk => (k1 k hk).trans (h.1 k hk), fun k hk => (k2 2 k (by decide) (by decide) hk).trans (h.2.1 k hk), fun k hk => (k2 3 k (by decide) (by decide) hk).trans (h.2.2.1 k hk), fun k hk => (k2 4 k (by decide) (by decide) hk).trans (h.2.2.2.1 k hk), k3.trans h.2.2.2.2⟩
theorem and_3 {th c : Int32} (hc : c = 1 ∨ c = 2) (ht : th = 0 ∨ th = 1 ∨ th = 2 ∨ th = 3) : (th &&& c) = 0 ↔ ¬ ((c = 1 ∧ (th = 1 ∨ th = 3)) ∨ (c = 2 ∧ (th = 2 ∨ th = 3))) := by
  rcases hc with rfl | rfl <;> rcases ht with rfl | rfl | rfl | rfl <;> decide
theorem drawnC (w : WT m) (h : HC 21 m g) (hE : EC m v) (ha : a < 8) (he : e < 8) : Ct ad μX1_drawnResult (d + 5) [.ref (ad 3), .ref (ad 21), .int (nI a), .int (nI e)] m (fun r m' => WT m' ∧ Fx (RS [4, 14]) m m' ∧ r = some (.int (if chG v g a e ≤ hdG (luG g.2.2.2.2) then 1 else 0)) ∧ HC 21 m' (g.1, g.2.1, g.2.2.1, g.2.2.2.1, luG g.2.2.2.2)) := by
  have hG : GR 4 := Or.inr (Or.inl rfl)
  refine v_X1_drawnResult (d := d + 4) SS_21.1 ((chanceC (d := d) SS_21 hG w h hE ha he).to ?_)
  rintro _ m1 ⟨w1, f1, rfl⟩
  have H1 := h.fx SS_21 f1 rfl
  have el : (uI m1 21 4 (m1.1 21 4 * 1103515245 + 12345)).1 21 4 = luG g.2.2.2.2 := by
    rw [u_eq, H1.2.2.2.2]
    rfl
  rw [el]
  have w2 : WT (uI m1 21 4 (m1.1 21 4 * 1103515245 + 12345)) := w1.n rfl
  have f2 : Fx (RS [4, 14]) m (uI m1 21 4 (m1.1 21 4 * 1103515245 + 12345)) := (Fx.tr Fx.rf f1 (RS_sub rfl)).i rfl
  have H2 : HC 21 (uI m1 21 4 (m1.1 21 4 * 1103515245 + 12345)) (g.1, g.2.1, g.2.2.1, g.2.2.2.1, luG g.2.2.2.2) := ⟨H1.1, H1.2.1, H1.2.2.1, H1.2.2.2.1, el⟩
  exact ⟨_, rfl, fun c => ⟨w2, f2, (congrArg (fun z => some (Value.int z)) (if_pos (show chG v g a e ≤ hdG (luG g.2.2.2.2) from c))).symm, H2⟩, fun c => ⟨w2, f2, (congrArg (fun z => some (Value.int z)) (if_neg (show ¬ chG v g a e ≤ hdG (luG g.2.2.2.2) from c))).symm, H2⟩⟩
/-- playNow behind what is saved -/
theorem playNow32 (w : WT m) (h : HC 21 m g) (hE : EC m v) (ha : a < 8) (he : e < 8) (hae : a ≠ e) {th s0 : Int32} (ht : th = 0 ∨ th = 1 ∨ th = 2 ∨ th = 3) (hs : s0 = 0 ↔ ¬ byG true v th) :
    AW ad E0 μX11_playNow (d + 6) (fun r m' => WT m' ∧ Fx (RS [2, 4, 14]) m m' ∧ r = some (.int (wonG true v a e th g)) ∧ HC 21 m' (goG true v a e th g)) 32 [(0, .ref (ad 0)), (1, .int (nI a)), (2, .int (nI e)), (3, .int th)] [.int s0] m := by
  have hG : GR 4 := Or.inr (Or.inl rfl)
  have V1 : vp_in (nI a) 8 := nat_in ha (by decide)
  have V2 : vp_in (nI e) 8 := nat_in he (by decide)
  have fin : ∀ (x : Int32) (g1 : GS) (m1 : Wm), WT m1 → Fx (RS [2, 4, 14]) m m1 → HC 21 m1 g1 → AW ad E0 μX11_playNow (d + 6) (fun r m' => WT m' ∧ Fx (RS [2, 4, 14]) m m' ∧ r = some (.int x) ∧ HC 21 m' (stlG true v a e x (thG th a e g1))) 69 [(0, .ref (ad 0)), (1, .int (nI a)), (2, .int (nI e)), (3, .int th)] [.int x] m1 := by
    intro x g1 m1 w1 f1 H1
    have S : ∀ (g2 : GS) (m2 : Wm), WT m2 → Fx (RS [2, 4, 14]) m m2 → HC 21 m2 g2 → AW ad E0 μX11_playNow (d + 6) (fun r m' => WT m' ∧ Fx (RS [2, 4, 14]) m m' ∧ r = some (.int x) ∧ HC 21 m' (stlG true v a e x g2)) 109 [(0, .ref (ad 0)), (1, .int (nI a)), (2, .int (nI e)), (5, .int x)] [] m2 := by
      intro g2 m2 w2 f2 H2
      refine g_X11_playNow_109 (d := d + 5) ((settleC (d := d + 2) (cn := true) SS_21 hG w2 H2 (hE.fx f2 rfl) ha he hae (by decide)).to ?_)
      rintro _ m3 ⟨rfl, w3, f3, H3⟩
      exact ⟨rfl, w3, f2.tr f3 (RS_sub rfl), rfl, H3⟩
    have T : ∀ (g2 : GS) (m2 : Wm), WT m2 → Fx (RS [2, 4, 14]) m m2 → HC 21 m2 g2 → AW ad E0 μX11_playNow (d + 6) (fun r m' => WT m' ∧ Fx (RS [2, 4, 14]) m m' ∧ r = some (.int x) ∧ HC 21 m' (stlG true v a e x (g2.1, g2.2.1, g2.2.2.1, (if th = 2 ∨ th = 3 then upd g2.2.2.2.1 e (g2.2.2.2.1 e + 1) else g2.2.2.2.1), g2.2.2.2.2))) 90 [(0, .ref (ad 0)), (1, .int (nI a)), (2, .int (nI e)), (3, .int th), (5, .int x)] [] m2 := by
      intro g2 m2 w2 f2 H2
      refine g_X11_playNow_90 (d := d + 5) ⟨fun c => ?_, fun c => ?_⟩
      · have n := (and_3 (Or.inr rfl) ht).mp c
        rw [if_neg (fun z => n (Or.inr ⟨rfl, z⟩))]
        exact S _ _ w2 f2 H2
      · have n : th = 2 ∨ th = 3 := by
          by_cases z : th = 2 ∨ th = 3
          · exact z
          · exact absurd ((and_3 (Or.inr rfl) ht).mpr (fun q => q.elim (fun q => absurd q.1 (by decide)) (fun q => z q.2))) c
        rw [if_pos n, nI_clamp (by omega), H2.2.2.2.1 e he]
        exact ⟨V2, V2, S _ _ (w2.n rfl) (f2.i rfl) H2.th⟩
    refine g_X11_playNow_69 (d := d + 5) ⟨fun c => ?_, fun c => ?_⟩
    · have n := (and_3 (Or.inl rfl) ht).mp c
      have := T _ _ w1 f1 H1
      unfold thG
      rw [if_neg (fun z => n (Or.inl ⟨rfl, z⟩))]
      exact this
    · have n : th = 1 ∨ th = 3 := by
        by_cases z : th = 1 ∨ th = 3
        · exact z
        · exact absurd ((and_3 (Or.inl rfl) ht).mpr (fun q => q.elim (fun q => z q.2) (fun q => absurd q.1 (by decide)))) c
      have := T _ _ (w1.n (a := 25) (k := a) (v := g1.2.2.2.1 a + 1) rfl) (f1.i rfl) H1.th
      unfold thG
      rw [if_pos n, nI_clamp (by omega), H1.2.2.2.1 a ha]
      exact ⟨V1, V1, this⟩
  refine g_X11_playNow_32 (d := d + 5) ⟨fun q => (resultC (d := d + 1) SS_21 hG w h hE ha he ht).to ?_, fun q => (drawnC (d := d) w h hE ha he).to ?_⟩
  · rintro _ m1 ⟨w1, f1, rfl⟩
    refine ⟨_, rfl, ?_⟩
    have := fin (wnG v g a e th) g m1 w1 (Fx.tr Fx.rf f1 (RS_sub rfl)) (h.fx SS_21 f1 rfl)
    unfold goG wonG drwG
    rw [if_neg (hs.mp q), if_neg (hs.mp q)]
    exact this
  · have hby : byG true v th := by
      by_cases z : byG true v th
      · exact z
      · exact absurd (hs.mpr z) q
    rintro _ m1 ⟨w1, f1, rfl, H1⟩
    refine ⟨_, rfl, ?_⟩
    have := fin (if chG v g a e ≤ hdG (luG g.2.2.2.2) then 1 else 0) _ m1 w1 (Fx.tr Fx.rf f1 (RS_sub rfl)) H1
    unfold goG wonG drwG
    rw [if_pos hby, if_pos hby]
    exact this
end PLC
