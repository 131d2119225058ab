/-! CALLS: beats, kings -/
/-- whom s meets with the result r, of the first k sides -/
def bwF (v : EV) (g : GS) (s : Nat) (r : Int32) : Nat → Int32
  | 0 => 0
  | k + 1 => if k = s then bwF v g s r k else if wnG v g s k 0 = r then bwF v g s r k ||| ((1 : Int32) <<< (nI k &&& 31)) else bwF v g s r k
theorem or_0 (x : Int32) : x ||| (0 : Int32) = x := b_ext (fun i _ => by rw [b_or, b_0, Bool.or_false])
section BTS
variable {ad : Nat → Nat} {d : Nat} {m m0 : Wm} {g : GS} {v : EV} {H : List GS}
theorem bwF_e {s k : Nat} {r : Int32} (h : k = s) : bwF v g s r (k + 1) = bwF v g s r k := if_pos h
theorem bwF_y {s k : Nat} {r : Int32} (h : ¬ k = s) (h2 : wnG v g s k 0 = r) : bwF v g s r (k + 1) = bwF v g s r k ||| ((1 : Int32) <<< (nI k &&& 31)) := (if_neg h).trans (if_pos h2)
theorem bwF_n {s k : Nat} {r : Int32} (h : ¬ k = s) (h2 : ¬ wnG v g s k 0 = r) : bwF v g s r (k + 1) = bwF v g s r k := (if_neg h).trans (if_neg h2)
theorem e_swrC {s : Nat} {r : Int32} (w : WT m) (hc : HC 21 m g) (ec : EC m v) (hs : s < 8) : Ct ad μX11_sidesWithResult (d + 5) [.ref (ad 0), .int (nI s), .int r] m (fun r' m' => WT m' ∧ Fx (RS [14]) m m' ∧ r' = some (.int (bwF v g s r (nE v)))) := by
  have n8 := ec.2.2.1
  have hG : GR 4 := Or.inr (Or.inl rfl)
  have L : ∀ (j k : Nat) (m1 : Wm), k + j = nE v → WT m1 → Fx (RS [14]) m m1 → AW ad E0 μX11_sidesWithResult (d + 5) (fun r' m' => WT m' ∧ Fx (RS [14]) m m' ∧ r' = some (.int (bwF v g s r (nE v)))) 5 [(0, .ref (ad 0)), (1, .int (nI s)), (2, .int r), (3, .int (bwF v g s r k)), (4, .int (nI k))] [] m1 := by
    intro j
    induction j with
    | zero =>
      intro k m1 hk w1 f1
      have e33 : m1.1 3 3 = nI (nE v) := (ec.fx f1 rfl).1
      obtain rfl : k = nE v := hk
      exact g_X11_sidesWithResult_5 (d := d + 4) ⟨fun _ => ⟨w1, f1, rfl⟩, fun z => absurd (by rw [e33]; exact (nI_leI (a := nE v) (b := nE v) (by omega) (by omega)).mpr (Nat.le_refl _)) z⟩
    | succ j ih =>
      intro k m1 hk w1 f1
      have ec1 := ec.fx f1 rfl
      have e33 : m1.1 3 3 = nI (nE v) := ec1.1
      refine g_X11_sidesWithResult_5 (d := d + 4) ⟨fun z => absurd (by rw [e33] at z; exact (nI_leI (a := nE v) (b := k) (by omega) (by omega)).mp z) (by omega), fun _ => ⟨fun q => ?_, fun q => ?_⟩⟩
      · have hks : k = s := (nI_eq (a := k) (b := s) (by omega) (by omega)).mp q
        have := ih (k + 1) m1 (by omega) w1 f1
        rw [bwF_e hks] at this
        rw [nI_1]
        exact this
      · have hks : ¬ k = s := fun z => q (by rw [z])
        refine (resultC (d := d) SS_21 hG w1 (hc.fx SS_21 f1 rfl) ec1 hs (by omega) (Or.inl rfl)).to ?_
        rintro _ m2 ⟨w2, f2, rfl⟩
        have := ih (k + 1) m2 (by omega) w2 (f1.tr f2 (fun _ _ h => h))
        rw [nI_1]
        refine ⟨_, rfl, fun c => ?_, fun c => ?_⟩
        · rw [bwF_n hks c] at this
          exact this
        · rw [bwF_y hks c] at this
          exact this
  exact v_X11_sidesWithResult (d := d + 4) (L (nE v) 0 m (by omega) w Fx.rf)
theorem e_bbM {s : Nat} (w : WT m) (hm : HM (nE v) m g) (em : EM m v) (hs : s < nE v) : Ct ad μX12_beatenBy (d + 170) [.ref (ad 187), .int (nI s)] m (fun r' m' => WT m' ∧ Fx (RS [22, 28]) m m' ∧ r' = some (.int (bwF v g s 0 (nE v)))) := by
  have n8 := em.2.2.1
  have L : ∀ (j k : Nat) (m1 : Wm), k + j = nE v → WT m1 → Fx (RS [22, 28]) m m1 → AW ad E0 μX12_beatenBy (d + 170) (fun r' m' => WT m' ∧ Fx (RS [22, 28]) m m' ∧ r' = some (.int (bwF v g s 0 (nE v)))) 4 [(0, .ref (ad 187)), (1, .int (nI s)), (2, .int (bwF v g s 0 k)), (3, .int (nI k))] [] m1 := by
    intro j
    induction j with
    | zero =>
      intro k m1 hk w1 f1
      have e1 : m1.1 187 1 = nI (nE v) := (em.fx f1 rfl).1
      obtain rfl : k = nE v := hk
      exact g_X12_beatenBy_4 (d := d + 169) ⟨fun _ => ⟨w1, f1, rfl⟩, fun z => absurd (by rw [e1]; exact (nI_leI (a := nE v) (b := nE v) (by omega) (by omega)).mpr (Nat.le_refl _)) z⟩
    | succ j ih =>
      intro k m1 hk w1 f1
      have em1 := em.fx f1 rfl
      have e1 : m1.1 187 1 = nI (nE v) := em1.1
      refine g_X12_beatenBy_4 (d := d + 169) ⟨fun z => absurd (by rw [e1] at z; exact (nI_leI (a := nE v) (b := k) (by omega) (by omega)).mp z) (by omega), fun _ => ⟨fun q => ?_, fun q => ?_⟩⟩
      · have hks : k = s := (nI_eq (a := k) (b := s) (by omega) (by omega)).mp q
        have := ih (k + 1) m1 (by omega) w1 f1
        rw [bwF_e hks] at this
        rw [nI_1, or_0]
        exact this
      · have hks : ¬ k = s := fun z => q (by rw [z])
        refine (winnerM (d := d) w1 (hm.fx f1 rfl rfl) em1 hs (by omega)).to ?_
        rintro _ m2 ⟨w2, f2, rfl⟩
        have := ih (k + 1) m2 (by omega) w2 (f1.tr f2 (fun _ _ h => h))
        rw [nI_1, or_0]
        refine ⟨_, rfl, fun c => ?_, fun c => ?_⟩
        · rw [bwF_n hks c] at this
          exact this
        · rw [bwF_y hks c] at this
          exact this
  exact v_X12_beatenBy (d := d + 169) (L (nE v) 0 m (by omega) w Fx.rf)
def btA (v : EV) (g : GS) (x : Int32) : Int32 := if 0 ≤ x.toInt ∧ x.toInt < nE v then bwF v g x.toNatClampNeg 0 (nE v) else -1
theorem e_beatsC {x1 : Int32} (w : WT m) (hc : HC 21 m g) (ec : EC m v) : Ct ad μX11_beats (d + 6) [.ref (ad 0), .int x1] m (fun r m' => WT m' ∧ Fx (RS [9, 14]) m m' ∧ r = some (.int (btA v g x1))) := by
  have n8 := ec.2.2.1
  refine v_X11_beats (d := d + 5) ((hasC (d := d + 5) ec.1 n8).to ?_)
  rintro _ m1 ⟨eq, v1, rfl, y1, y2⟩
  obtain rfl := eq.symm
  refine ⟨v1, rfl, fun q => ?_, fun q => ⟨w, Fx.rf, ?_⟩⟩
  · have hI := y2 q
    obtain ⟨s, hs, rfl⟩ := hI.of
    refine (e_swrC (d := d) w hc ec (by omega)).to ?_
    rintro _ m2 ⟨w2, f2, rfl⟩
    refine ⟨_, rfl, (s_X11_tell w2).to ?_⟩
    rintro _ m3 ⟨w3, f3, rfl⟩
    have F3 : Fx (RS [9, 14]) m m3 := (Fx.tr Fx.rf f2 (RS_sub rfl)).tr f3 (RS_sub rfl)
    refine ⟨rfl, (e_swrC (d := d) w3 (hc.fx SS_21 F3 rfl) (ec.fx F3 rfl) (by omega)).to ?_⟩
    rintro _ m4 ⟨w4, f4, rfl⟩
    refine ⟨_, rfl, w4, F3.tr f4 (RS_sub rfl), ?_⟩
    unfold btA
    rw [if_pos (inN_of hI), nI_clamp (by omega)]
  · unfold btA
    rw [if_neg (ninN_of (y1 q))]
theorem e_beatsM {x1 : Int32} (w : WT m) (hm : HM (nE v) m g) (em : EM m v) : Ct ad μX12_beats (d + 171) [.ref (ad 187), .int x1] m (fun r m' => WT m' ∧ Fx (RS [20, 22, 26, 28]) m m' ∧ r = some (.int (btA v g x1))) := by
  have n8 := em.2.2.1
  have w0 : WT (uI m 187 17 0) := w.n rfl
  have f0 : Fx (RS [20]) m (uI m 187 17 0) := Fx.rf.i rfl
  have em0 : EM (uI m 187 17 0) v := em.fx f0 rfl
  have hm0 : HM (nE v) (uI m 187 17 0) g := hm
  refine v_X12_beats (d := d + 170) ((sideM (d := d + 169) em0.1 n8).to ?_)
  rintro _ m1 ⟨eq, v1, rfl, y1, y2⟩
  obtain rfl := eq.symm
  have F0 : Fx (RS [20, 22, 26, 28]) m (uI m 187 17 0) := Fx.tr Fx.rf f0 (RS_sub rfl)
  refine ⟨v1, rfl, fun q => ?_, fun q => ⟨w0, F0, ?_⟩⟩
  · have hI := y2 q
    obtain ⟨s, hs, rfl⟩ := hI.of
    have ea : btA v g (nI s) = bwF v g s 0 (nE v) := by
      unfold btA
      rw [if_pos (inN_of hI), nI_clamp (by omega)]
    have L : ∀ (j k : Nat) (x2 : Int32) (m1 : Wm), k + j = nE v → WT m1 → Fx (RS [20, 22, 26, 28]) m m1 → AW ad E0 μX12_beats (d + 171) (fun r m' => WT m' ∧ Fx (RS [20, 22, 26, 28]) m m' ∧ r = some (.int (btA v g (nI s)))) 19 [(0, .ref (ad 187)), (1, .int (nI s)), (2, .int x2), (3, .int (nI k))] [] m1 := by
      intro j
      induction j with
      | zero =>
        intro k x2 m1 hk w1 f1
        have e1 : m1.1 187 1 = nI (nE v) := (em.fx f1 rfl).1
        have w2 : WT (uI m1 187 16 (0 : Int32)) := w1.t rfl (by decide) (by decide)
        have f2 : Fx (RS [26]) m1 (uI m1 187 16 (0 : Int32)) := Fx.rf.i rfl
        have e16 : ((uI m1 187 16 (0 : Int32)).1 187 16).toInt = 0 := by
          rw [u_eq]
          rfl
        refine g_X12_beats_19 (d := d + 170) ⟨fun _ => (s_X12_tell w2 (by omega)).to ?_, fun z => absurd (by rw [e1]; exact (nI_leI (a := nE v) (b := k) (by omega) (by omega)).mpr (by omega)) z⟩
        rintro _ m3 ⟨w3, f3, rfl, -⟩
        have F3 := (f1.tr f2 (RS_sub rfl)).tr f3 (RS_sub rfl)
        refine ⟨rfl, (e_bbM (d := d) w3 (hm.fx F3 rfl rfl) (em.fx F3 rfl) hs).to ?_⟩
        rintro _ m4 ⟨w4, f4, rfl⟩
        exact ⟨_, rfl, w4, F3.tr f4 (RS_sub rfl), by rw [ea]⟩
      | succ j ih =>
        intro k x2 m1 hk w1 f1
        have em1 := em.fx f1 rfl
        have e1 : m1.1 187 1 = nI (nE v) := em1.1
        refine g_X12_beats_19 (d := d + 170) ⟨fun z => absurd (by rw [e1] at z; exact (nI_leI (a := nE v) (b := k) (by omega) (by omega)).mp z) (by omega), fun _ => ⟨fun q => ?_, fun q => (winnerM (d := d + 1) w1 (hm.fx f1 rfl rfl) em1 hs (by omega)).to ?_⟩⟩
        · rw [nI_1]
          exact ih (k + 1) _ m1 (by omega) w1 f1
        · rintro _ m2 ⟨w2, f2, rfl⟩
          rw [nI_1]
          exact ⟨_, rfl, fun _ => ih (k + 1) _ m2 (by omega) w2 (f1.tr f2 (RS_sub rfl)), fun _ => ih (k + 1) _ m2 (by omega) w2 (f1.tr f2 (RS_sub rfl))⟩
    exact L (nE v) 0 0 _ (by omega) w0 F0
  · unfold btA
    rw [if_neg (ninN_of (y1 q))]
theorem og_beats (c : Nat) (x1 : Int32) : Both ad d μX11_beats μX12_beats [.int x1] (InvK (KX KG c)) (InvK (KX KG (c + 1))) := og_s (A := [9, 14]) (B := [20, 22, 26, 28]) (fun m g v H w kd => ⟨btA v g x1, e_beatsC (d := d + 294) w kd.1 kd.2.2.1, fun m1 w1 kd1 => e_beatsM (d := d + 129) w1 kd1.2.1 kd1.2.2.2.1⟩) rfl rfl rfl rfl rfl rfl
end BTS
/-! CALLS: kings -/
/-- whom s reaches, by way of the first k sides -/
def rchF (v : EV) (g : GS) (s : Nat) : Nat → Int32
  | 0 => bwF v g s 0 (nE v) ||| ((1 : Int32) <<< (nI s &&& 31))
  | k + 1 => if bt (bwF v g s 0 (nE v)) k = true then rchF v g s k ||| bwF v g k 0 (nE v) else rchF v g s k
def flG (n : Nat) : Int32 := ((1 : Int32) <<< (nI n &&& 31)) - (1 : Int32)
def kiF (v : EV) (g : GS) : Nat → Int32
  | 0 => 0
  | s + 1 => if rchF v g s (nE v) = flG (nE v) then kiF v g s ||| ((1 : Int32) <<< (nI s &&& 31)) else kiF v g s
section KIN
variable {ad : Nat → Nat} {d : Nat} {m m0 : Wm} {g : GS} {v : EV} {H : List GS}
theorem rchF_y {s k : Nat} (h : bt (bwF v g s 0 (nE v)) k = true) : rchF v g s (k + 1) = rchF v g s k ||| bwF v g k 0 (nE v) := if_pos h
theorem rchF_n {s k : Nat} (h : bt (bwF v g s 0 (nE v)) k = false) : rchF v g s (k + 1) = rchF v g s k := if_neg (by rw [h]; decide)
theorem kiF_y {s : Nat} (h : rchF v g s (nE v) = flG (nE v)) : kiF v g (s + 1) = kiF v g s ||| ((1 : Int32) <<< (nI s &&& 31)) := if_pos h
theorem kiF_n {s : Nat} (h : ¬ rchF v g s (nE v) = flG (nE v)) : kiF v g (s + 1) = kiF v g s := if_neg h
theorem e_isKing {s : Nat} (hn : m.1 3 3 = nI (nE v)) (n8 : nE v ≤ 8) (hs : s < nE v) (hB : ∀ k, k < nE v → m.1 149 k = bwF v g k 0 (nE v)) : Ct ad μX11_isKing d [.ref (ad 0), .int (nI s)] m (fun r m' => m' = m ∧ YN (rchF v g s (nE v) = flG (nE v)) r) := by
  have V : ∀ k, k < nE v → vp_in (nI k) 8 := fun k hk => nat_in (by omega) (by decide)
  have L : ∀ (j k : Nat), k + j = nE v → AW ad E0 μX11_isKing d (fun r m' => m' = m ∧ YN (rchF v g s (nE v) = flG (nE v)) r) 13 [(0, .ref (ad 0)), (1, .int (nI s)), (2, .int (rchF v g s k)), (3, .int (nI k))] [] m := by
    intro j
    induction j with
    | zero =>
      intro k hk
      obtain rfl : k = nE v := hk
      refine g_X11_isKing_13 ⟨fun _ => ?_, fun z => absurd (by rw [hn]; exact (nI_leI (a := nE v) (b := nE v) (by omega) (by omega)).mpr (Nat.le_refl _)) z⟩
      rw [hn]
      exact ⟨fun q => ⟨rfl, 0, rfl, fun _ => q, fun z => absurd rfl z⟩, fun q => ⟨rfl, 1, rfl, fun z => absurd z (by decide), fun _ => q⟩⟩
    | succ j ih =>
      intro k hk
      refine g_X11_isKing_13 ⟨fun z => absurd (by rw [hn] at z; exact (nI_leI (a := nE v) (b := k) (by omega) (by omega)).mp z) (by omega), fun _ => ⟨V s hs, ?_⟩⟩
      rw [nI_clamp (by omega), nI_clamp (by omega), hB s hs, hB k (by omega), nI_1]
      have := ih (k + 1) (by omega)
      refine ⟨fun q => ?_, fun q => ⟨V k (by omega), ?_⟩⟩
      · rw [rchF_n ((bit_0 _ (by omega)).mp q)] at this
        exact this
      · have hb : bt (bwF v g s 0 (nE v)) k = true := by
          cases hb : bt (bwF v g s 0 (nE v)) k with
          | true => rfl
          | false => exact absurd ((bit_0 _ (by omega)).mpr hb) q
        rw [rchF_y hb] at this
        exact this
  refine v_X11_isKing ⟨V s hs, ?_⟩
  rw [nI_clamp (by omega), hB s hs]
  exact L (nE v) 0 (by omega)
theorem e_kingsC (w : WT m) (hc : HC 21 m g) (ec : EC m v) : Ct ad μX11_kings (d + 6) [.ref (ad 0)] m (fun r m' => WT m' ∧ Fx (RS [9, 14]) m m' ∧ r = some (.int (kiF v g (nE v)))) := by
  have n8 := ec.2.2.1
  have V : ∀ k, k < nE v → vp_in (nI k) 8 := fun k hk => nat_in (by omega) (by decide)
  have L2 : ∀ (x1 : Int32) (j s : Nat) (m1 : Wm), s + j = nE v → WT m1 → Fx (RS [9, 14]) m m1 → (∀ k, k < nE v → m1.1 149 k = bwF v g k 0 (nE v)) → AW ad E0 μX11_kings (d + 6) (fun r m' => WT m' ∧ Fx (RS [9, 14]) m m' ∧ r = some (.int (kiF v g (nE v)))) 52 [(0, .ref (ad 0)), (1, .int x1), (2, .int (kiF v g s)), (3, .int (nI s))] [] m1 := by
    intro x1 j
    induction j with
    | zero =>
      intro s m1 hs w1 f1 hB
      have e33 : m1.1 3 3 = nI (nE v) := (ec.fx f1 rfl).1
      obtain rfl : s = nE v := hs
      refine g_X11_kings_52 (d := d + 5) ⟨fun _ => (s_X11_tell w1).to ?_, fun z => absurd (by rw [e33]; exact (nI_leI (a := nE v) (b := nE v) (by omega) (by omega)).mpr (Nat.le_refl _)) z⟩
      rintro _ m2 ⟨w2, f2, rfl⟩
      exact ⟨rfl, w2, f1.tr f2 (RS_sub rfl), rfl⟩
    | succ j ih =>
      intro s m1 hs w1 f1 hB
      have e33 : m1.1 3 3 = nI (nE v) := (ec.fx f1 rfl).1
      refine g_X11_kings_52 (d := d + 5) ⟨fun z => absurd (by rw [e33] at z; exact (nI_leI (a := nE v) (b := s) (by omega) (by omega)).mp z) (by omega), fun _ => (e_isKing (d := d + 5) (s := s) e33 n8 (by omega) hB).to ?_⟩
      rintro _ m2 ⟨eq, v2, rfl, y1, y2⟩
      obtain rfl := eq.symm
      have := ih (s + 1) m1 (by omega) w1 f1 hB
      rw [nI_1]
      refine ⟨v2, rfl, fun q => ?_, fun q => ?_⟩
      · rw [kiF_n (y1 q)] at this
        exact this
      · rw [kiF_y (y2 q)] at this
        exact this
  have L : ∀ (j s : Nat) (x1 : Int32) (m1 : Wm), s + j = nE v → WT m1 → Fx (RS [9, 14]) m m1 → (∀ k, k < s → m1.1 149 k = bwF v g k 0 (nE v)) → AW ad E0 μX11_kings (d + 6) (fun r m' => WT m' ∧ Fx (RS [9, 14]) m m' ∧ r = some (.int (kiF v g (nE v)))) 4 [(0, .ref (ad 0)), (1, .int x1), (2, .int (nI s))] [] m1 := by
    intro j
    induction j with
    | zero =>
      intro s x1 m1 hs w1 f1 hB
      have e33 : m1.1 3 3 = nI (nE v) := (ec.fx f1 rfl).1
      obtain rfl : s = nE v := hs
      exact g_X11_kings_4 (d := d + 5) ⟨fun _ => L2 x1 (nE v) 0 m1 (by omega) w1 f1 hB, fun z => absurd (by rw [e33]; exact (nI_leI (a := nE v) (b := nE v) (by omega) (by omega)).mpr (Nat.le_refl _)) z⟩
    | succ j ih =>
      intro s x1 m1 hs w1 f1 hB
      have ec1 := ec.fx f1 rfl
      have e33 : m1.1 3 3 = nI (nE v) := ec1.1
      refine g_X11_kings_4 (d := d + 5) ⟨fun z => absurd (by rw [e33] at z; exact (nI_leI (a := nE v) (b := s) (by omega) (by omega)).mp z) (by omega), fun _ => (e_swrC (d := d) w1 (hc.fx SS_21 f1 rfl) ec1 (by omega)).to ?_⟩
      rintro _ m2 ⟨w2, f2, rfl⟩
      rw [nI_clamp (by omega), nI_1]
      have w3 : WT (uI m2 149 s (bwF v g s 0 (nE v))) := w2.n rfl
      have F2 := f1.tr f2 (RS_sub (l2 := [9, 14]) rfl)
      have f3 : Fx (RS [9, 14]) m (uI m2 149 s (bwF v g s 0 (nE v))) := F2.i rfl
      have hB3 : ∀ k, k < s + 1 → (uI m2 149 s (bwF v g s 0 (nE v))).1 149 k = bwF v g k 0 (nE v) := fun k hk => by
        by_cases q : k = s
        · rw [q, u_eq]
        · rw [u_ne (fun z => q z.2), f2.at (a := 149) (k := k) (nRS (ρ := 9) rfl rfl)]
          exact hB k (by omega)
      exact ⟨_, rfl, V s (by omega), V s (by omega), fun _ => ih (s + 1) _ _ (by omega) w3 f3 hB3, fun _ => ih (s + 1) _ _ (by omega) w3 f3 hB3⟩
  exact v_X11_kings (d := d + 5) (L (nE v) 0 0 m (by omega) w Fx.rf (fun k hk => absurd hk (Nat.not_lt_zero k)))
theorem e_kingsM (w : WT m) (hm : HM (nE v) m g) (em : EM m v) : Ct ad μX12_kings (d + 171) [.ref (ad 187)] m (fun r m' => WT m' ∧ Fx (RS [20, 22, 26, 28]) m m' ∧ r = some (.int (kiF v g (nE v)))) := by
  have n8 := em.2.2.1
  have w0 : WT (uI m 187 17 0) := w.n rfl
  have f0 : Fx (RS [20, 22, 26, 28]) m (uI m 187 17 0) := Fx.rf.i rfl
  have L : ∀ (j s : Nat) (x2 : Int32) (m1 : Wm), s + j = nE v → WT m1 → Fx (RS [20, 22, 26, 28]) m m1 → AW ad E0 μX12_kings (d + 171) (fun r m' => WT m' ∧ Fx (RS [20, 22, 26, 28]) m m' ∧ r = some (.int (kiF v g (nE v)))) 11 [(0, .ref (ad 187)), (1, .int (kiF v g s)), (2, .int x2), (3, .int (nI s))] [] m1 := by
    intro j
    induction j with
    | zero =>
      intro s x2 m1 hs w1 f1
      have e1 : m1.1 187 1 = nI (nE v) := (em.fx f1 rfl).1
      obtain rfl : s = nE v := hs
      have w2 : WT (uI m1 187 16 (0 : Int32)) := w1.t rfl (by decide) (by decide)
      have f2 : Fx (RS [26]) m1 (uI m1 187 16 (0 : Int32)) := Fx.rf.i rfl
      refine g_X12_kings_11 (d := d + 170) ⟨fun _ => (s_X12_tell w2 (by rw [u_eq]; decide)).to ?_, fun z => absurd (by rw [e1]; exact (nI_leI (a := nE v) (b := nE v) (by omega) (by omega)).mpr (Nat.le_refl _)) z⟩
      rintro _ m3 ⟨w3, f3, rfl, -⟩
      exact ⟨rfl, w3, (f1.tr f2 (RS_sub rfl)).tr f3 (RS_sub rfl), rfl⟩
    | succ j ih =>
      intro s x2 m1 hs w1 f1
      have em1 := em.fx f1 rfl
      have e1 : m1.1 187 1 = nI (nE v) := em1.1
      refine g_X12_kings_11 (d := d + 170) ⟨fun z => absurd (by rw [e1] at z; exact (nI_leI (a := nE v) (b := s) (by omega) (by omega)).mp z) (by omega), fun _ => (e_bbM (d := d) w1 (hm.fx f1 rfl rfl) em1 (by omega)).to ?_⟩
      rintro _ m2 ⟨w2, f2, rfl⟩
      have F2 := f1.tr f2 (RS_sub (l2 := [20, 22, 26, 28]) rfl)
      have K : ∀ (j2 k : Nat) (m3 : Wm), k + j2 = nE v → WT m3 → Fx (RS [20, 22, 26, 28]) m m3 → AW ad E0 μX12_kings (d + 171) (fun r m' => WT m' ∧ Fx (RS [20, 22, 26, 28]) m m' ∧ r = some (.int (kiF v g (nE v)))) 37 [(0, .ref (ad 187)), (1, .int (kiF v g s)), (2, .int x2), (3, .int (nI s)), (4, .int (bwF v g s 0 (nE v))), (5, .int (rchF v g s k)), (6, .int (nI k))] [] m3 := by
        intro j2
        induction j2 with
        | zero =>
          intro k m3 hk w3 f3
          have e1 : m3.1 187 1 = nI (nE v) := (em.fx f3 rfl).1
          obtain rfl : k = nE v := hk
          refine g_X12_kings_37 (d := d + 170) ⟨fun _ => ?_, fun z => absurd (by rw [e1]; exact (nI_leI (a := nE v) (b := nE v) (by omega) (by omega)).mpr (Nat.le_refl _)) z⟩
          rw [e1]
          have E : ∀ s0 : Int32, kiF v g s ||| s0 = kiF v g (s + 1) → AW ad E0 μX12_kings (d + 171) (fun r m' => WT m' ∧ Fx (RS [20, 22, 26, 28]) m m' ∧ r = some (.int (kiF v g (nE v)))) 98 [(0, .ref (ad 187)), (2, .int x2), (3, .int (nI s)), (4, .int (bwF v g s 0 (nE v)))] [.int s0, .int (kiF v g s)] m3 := fun s0 hs0 => by
            refine g_X12_kings_98 (d := d + 170) ?_
            rw [hs0, nI_1]
            exact ⟨fun _ => ih (s + 1) _ m3 (by omega) w3 f3, fun _ => ih (s + 1) _ m3 (by omega) w3 f3⟩
          exact ⟨fun q => E 0 (by rw [or_0, kiF_n q]), fun q => E _ (kiF_y q).symm⟩
        | succ j2 ih2 =>
          intro k m3 hk w3 f3
          have em3 := em.fx f3 rfl
          have e1 : m3.1 187 1 = nI (nE v) := em3.1
          refine g_X12_kings_37 (d := d + 170) ⟨fun z => absurd (by rw [e1] at z; exact (nI_leI (a := nE v) (b := k) (by omega) (by omega)).mp z) (by omega), fun _ => (hasM_ok).to ?_⟩
          rintro _ m4 ⟨eq, rfl⟩
          obtain rfl := eq.symm
          have hbq := bit_q (bwF v g s 0 (nE v)) (k := k) (by omega)
          rw [nI_1, or_0]
          refine ⟨_, rfl, fun q => ?_, fun q => (e_bbM (d := d) (s := k) w3 (hm.fx f3 rfl rfl) em3 (by omega)).to ?_⟩
          · have hb : bt (bwF v g s 0 (nE v)) k = false := by
              cases hb : bt (bwF v g s 0 (nE v)) k with
              | false => rfl
              | true => rw [if_pos (hbq.mpr hb)] at q; exact absurd q (by decide)
            have := ih2 (k + 1) m3 (by omega) w3 f3
            rw [rchF_n hb] at this
            exact this
          · have hb : bt (bwF v g s 0 (nE v)) k = true := by
              by_cases z : ((bwF v g s 0 (nE v) >>> (nI k &&& 31)) &&& 1) = 1
              · exact hbq.mp z
              · rw [if_neg z] at q; exact absurd rfl q
            rintro _ m5 ⟨w5, f5, rfl⟩
            have := ih2 (k + 1) m5 (by omega) w5 (f3.tr f5 (RS_sub rfl))
            rw [rchF_y hb] at this
            exact ⟨_, rfl, this⟩
      exact ⟨_, rfl, K (nE v) 0 m2 (by omega) w2 F2⟩
  exact v_X12_kings (d := d + 170) (L (nE v) 0 0 _ (by omega) w0 f0)
theorem og_kings (c : Nat) : Both ad d μX11_kings μX12_kings [] (InvK (KX KG c)) (InvK (KX KG (c + 1))) := og_s (A := [9, 14]) (B := [20, 22, 26, 28]) (fun m g v H w kd => ⟨kiF v g (nE v), e_kingsC (d := d + 294) w kd.1 kd.2.2.1, fun m1 w1 kd1 => e_kingsM (d := d + 129) w1 kd1.2.1 kd1.2.2.2.1⟩) rfl rfl rfl rfl rfl rfl
end KIN
/-! CALLS: spread -/
/-- the first of those with the least -/
def wkF (f : Nat → Int32) : Nat → Nat
  | 0 => 0
  | k + 1 => if f (wkF f k) ≤ f k then wkF f k else k
theorem wkF_p {f : Nat → Int32} {k : Nat} (c : f (wkF f k) ≤ f k) : wkF f (k + 1) = wkF f k := if_pos c
theorem wkF_n {f : Nat → Int32} {k : Nat} (c : ¬ f (wkF f k) ≤ f k) : wkF f (k + 1) = k := if_neg c
theorem wkF_lt {f : Nat → Int32} {n : Nat} (hn : 0 < n) : ∀ k, k ≤ n → wkF f k < n := by
  intro k
  induction k with
  | zero => intro _; exact hn
  | succ k ih =>
    intro h
    by_cases c : f (wkF f k) ≤ f k
    · rw [wkF_p c]
      exact ih (by omega)
    · rw [wkF_n c]
      omega
theorem wkF_1 {f : Nat → Int32} : wkF f 1 = 0 := by
  by_cases c : f (wkF f 0) ≤ f 0
  · exact wkF_p c
  · exact wkF_n c
theorem bsF_1 {f : Nat → Int32} : bsF f 1 = 0 := by
  by_cases c : f 0 ≤ f (bsF f 0)
  · exact bsF_p c
  · exact bsF_n c
def sprA (v : EV) (g : GS) : Int32 := if nE v = 0 then 0 else pwG v g (bsF (pwG v g) (nE v)) - pwG v g (wkF (pwG v g) (nE v))
section SPR
variable {ad : Nat → Nat} {d : Nat} {m m0 : Wm} {g : GS} {v : EV} {H : List GS}
theorem powC {s : Nat} (w : WT m) (h : HC 21 m g) (hE : EC m v) (hs : s < 8) : Ct ad μX1_power (d + 4) [.ref (ad 3), .ref (ad 21), .int (nI s)] m (fun r m' => WT m' ∧ Fx (RS [14]) m m' ∧ r = some (.int (pwG v g s))) := by
  obtain ⟨P, hP, hRu, hV⟩ := valueC (ad := ad) (d := d) SS_21 (Or.inr (Or.inl rfl)) w h hE hs
  refine v_X1_power (d := d + 3) SS_21.1 ⟨P, hP, hRu, ?_⟩
  rw [hE.2.1]
  refine hV.to ?_
  rintro _ m1 ⟨w1, f1, rfl⟩
  exact ⟨_, rfl, w1, f1, rfl⟩
theorem e_strC (w : WT m) (hc : HC 21 m g) (ec : EC m v) (hn0 : 0 < nE v) : Ct ad μX1_strongest (d + 5) [.ref (ad 3), .ref (ad 21)] m (fun r m' => WT m' ∧ Fx (RS [14]) m m' ∧ r = some (.int (nI (bsF (pwG v g) (nE v))))) := by
  have n8 := ec.2.2.1
  have L : ∀ (j k : Nat) (m1 : Wm), 1 ≤ k → k + j = nE v → WT m1 → Fx (RS [14]) m m1 → AW ad E0 μX1_strongest (d + 5) (fun r m' => WT m' ∧ Fx (RS [14]) m m' ∧ r = some (.int (nI (bsF (pwG v g) (nE v))))) 7 [(0, .ref (ad 3)), (1, .ref (ad 21)), (2, .int (nI (bsF (pwG v g) k))), (3, .int (pwG v g (bsF (pwG v g) k))), (4, .int (nI k))] [] m1 := by
    intro j
    induction j with
    | zero =>
      intro k m1 h1 hk w1 f1
      have e33 : m1.1 3 3 = nI (nE v) := (ec.fx f1 rfl).1
      obtain rfl : k = nE v := hk
      exact g_X1_strongest_7 (d := d + 4) SS_21.1 ⟨fun _ => ⟨w1, f1, rfl⟩, fun z => absurd (by rw [e33]; exact (nI_leI (a := nE v) (b := nE v) (by omega) (by omega)).mpr (Nat.le_refl _)) z⟩
    | succ j ih =>
      intro k m1 h1 hk w1 f1
      have ec1 := ec.fx f1 rfl
      have e33 : m1.1 3 3 = nI (nE v) := ec1.1
      refine g_X1_strongest_7 (d := d + 4) SS_21.1 ⟨fun z => absurd (by rw [e33] at z; exact (nI_leI (a := nE v) (b := k) (by omega) (by omega)).mp z) (by omega), fun _ => (powC (d := d) (s := k) w1 (hc.fx SS_21 f1 rfl) ec1 (by omega)).to ?_⟩
      rintro _ m2 ⟨w2, f2, rfl⟩
      have := ih (k + 1) m2 (by omega) (by omega) w2 (f1.tr f2 (fun _ _ h => h))
      rw [nI_1]
      refine ⟨_, rfl, fun z => absurd ((nI_eq (a := k) (b := 0) (by omega) (by omega)).mp z) (by omega), fun _ => ⟨fun q => ?_, fun q => ?_⟩⟩
      · rw [bsF_p q] at this
        exact this
      · rw [bsF_n q] at this
        exact this
  refine v_X1_strongest (d := d + 4) SS_21.1 (g_X1_strongest_7 (d := d + 4) SS_21.1 ⟨fun z => absurd (by rw [ec.1] at z; exact (nI_leI (a := nE v) (b := 0) (by omega) (by omega)).mp z) (by omega), fun _ => (powC (d := d) (s := 0) w hc ec (by decide)).to ?_⟩)
  rintro _ m2 ⟨w2, f2, rfl⟩
  refine ⟨_, rfl, fun _ => ?_, fun z => absurd rfl z⟩
  have := L (nE v - 1) 1 m2 (by decide) (by omega) w2 f2
  rw [bsF_1] at this
  exact this
theorem e_weaC (w : WT m) (hc : HC 21 m g) (ec : EC m v) (hn0 : 0 < nE v) : Ct ad μX1_weakest (d + 5) [.ref (ad 3), .ref (ad 21)] m (fun r m' => WT m' ∧ Fx (RS [14]) m m' ∧ r = some (.int (nI (wkF (pwG v g) (nE v))))) := by
  have n8 := ec.2.2.1
  have L : ∀ (j k : Nat) (m1 : Wm), 1 ≤ k → k + j = nE v → WT m1 → Fx (RS [14]) m m1 → AW ad E0 μX1_weakest (d + 5) (fun r m' => WT m' ∧ Fx (RS [14]) m m' ∧ r = some (.int (nI (wkF (pwG v g) (nE v))))) 7 [(0, .ref (ad 3)), (1, .ref (ad 21)), (2, .int (nI (wkF (pwG v g) k))), (3, .int (pwG v g (wkF (pwG v g) k))), (4, .int (nI k))] [] m1 := by
    intro j
    induction j with
    | zero =>
      intro k m1 h1 hk w1 f1
      have e33 : m1.1 3 3 = nI (nE v) := (ec.fx f1 rfl).1
      obtain rfl : k = nE v := hk
      exact g_X1_weakest_7 (d := d + 4) SS_21.1 ⟨fun _ => ⟨w1, f1, rfl⟩, fun z => absurd (by rw [e33]; exact (nI_leI (a := nE v) (b := nE v) (by omega) (by omega)).mpr (Nat.le_refl _)) z⟩
    | succ j ih =>
      intro k m1 h1 hk w1 f1
      have ec1 := ec.fx f1 rfl
      have e33 : m1.1 3 3 = nI (nE v) := ec1.1
      refine g_X1_weakest_7 (d := d + 4) SS_21.1 ⟨fun z => absurd (by rw [e33] at z; exact (nI_leI (a := nE v) (b := k) (by omega) (by omega)).mp z) (by omega), fun _ => (powC (d := d) (s := k) w1 (hc.fx SS_21 f1 rfl) ec1 (by omega)).to ?_⟩
      rintro _ m2 ⟨w2, f2, rfl⟩
      have := ih (k + 1) m2 (by omega) (by omega) w2 (f1.tr f2 (fun _ _ h => h))
      rw [nI_1]
      refine ⟨_, rfl, fun z => absurd ((nI_eq (a := k) (b := 0) (by omega) (by omega)).mp z) (by omega), fun _ => ⟨fun q => ?_, fun q => ?_⟩⟩
      · rw [wkF_p q] at this
        exact this
      · rw [wkF_n q] at this
        exact this
  refine v_X1_weakest (d := d + 4) SS_21.1 (g_X1_weakest_7 (d := d + 4) SS_21.1 ⟨fun z => absurd (by rw [ec.1] at z; exact (nI_leI (a := nE v) (b := 0) (by omega) (by omega)).mp z) (by omega), fun _ => (powC (d := d) (s := 0) w hc ec (by decide)).to ?_⟩)
  rintro _ m2 ⟨w2, f2, rfl⟩
  refine ⟨_, rfl, fun _ => ?_, fun z => absurd rfl z⟩
  have := L (nE v - 1) 1 m2 (by decide) (by omega) w2 f2
  rw [wkF_1] at this
  exact this
theorem e_spreadC (w : WT m) (hc : HC 21 m g) (ec : EC m v) : Ct ad μX11_spread (d + 6) [.ref (ad 0)] m (fun r m' => WT m' ∧ Fx (RS [9, 14]) m m' ∧ r = some (.int (sprA v g))) := by
  have n8 := ec.2.2.1
  refine v_X11_spread (d := d + 5) ⟨fun c => ?_, fun c => ⟨w.t rfl (by decide) (by decide), Fx.rf.i rfl, ?_⟩⟩
  · have hn0 : 0 < nE v := Nat.pos_of_ne_zero (fun z => c (by rw [ec.1, z]; rfl))
    have hb := bsF_lt (f := pwG v g) hn0 (nE v) (Nat.le_refl _)
    have hw := wkF_lt (f := pwG v g) hn0 (nE v) (Nat.le_refl _)
    refine (e_strC (d := d) w hc ec hn0).to ?_
    rintro _ m1 ⟨w1, f1, rfl⟩
    refine ⟨_, rfl, (e_weaC (d := d) w1 (hc.fx SS_21 f1 rfl) (ec.fx f1 rfl) hn0).to ?_⟩
    rintro _ m2 ⟨w2, f2, rfl⟩
    refine ⟨_, rfl, (s_X11_tell_ w2).to ?_⟩
    rintro _ m3 ⟨w3, f3, rfl⟩
    have F3 : Fx (RS [9, 14]) m m3 := ((Fx.tr Fx.rf f1 (RS_sub rfl)).tr f2 (RS_sub rfl)).tr f3 (RS_sub rfl)
    refine ⟨rfl, (powC (d := d + 1) (s := bsF (pwG v g) (nE v)) w3 (hc.fx SS_21 F3 rfl) (ec.fx F3 rfl) (by omega)).to ?_⟩
    rintro _ m4 ⟨w4, f4, rfl⟩
    have F4 := F3.tr f4 (RS_sub (l2 := [9, 14]) rfl)
    refine ⟨_, rfl, (powC (d := d + 1) (s := wkF (pwG v g) (nE v)) w4 (hc.fx SS_21 F4 rfl) (ec.fx F4 rfl) (by omega)).to ?_⟩
    rintro _ m5 ⟨w5, f5, rfl⟩
    refine ⟨_, rfl, w5, F4.tr f5 (RS_sub rfl), ?_⟩
    unfold sprA
    rw [if_neg (by omega)]
  · have hn0 : nE v = 0 := (nI_eq (a := nE v) (b := 0) (by omega) (by omega)).mp (ec.1.symm.trans c)
    unfold sprA
    rw [if_pos hn0]
theorem e_spreadM (w : WT m) (hm : HM (nE v) m g) (em : EM m v) : Ct ad μX12_spread (d + 170) [.ref (ad 187)] m (fun r m' => WT m' ∧ Fx (RS [20, 22, 26, 28, 33]) m m' ∧ r = some (.int (sprA v g))) := by
  have n8 := em.2.2.1
  have wa : WT (uI (uI (uI m 187 17 0) 187 34 (0 : Int32)) 187 35 (0 : Int32)) := ((w.n rfl).n rfl).n rfl
  have fa : Fx (RS [20, 22, 26, 28, 33]) m (uI (uI (uI m 187 17 0) 187 34 (0 : Int32)) 187 35 (0 : Int32)) := Fx.i (Fx.i (Fx.i Fx.rf rfl) rfl) rfl
  have S : Ct ad μX12_spreadNow (d + 169) [.ref (ad 187)] (uI m 187 17 0) (fun r m' => WT m' ∧ Fx (RS [20, 22, 26, 28, 33]) m m' ∧ r = some (.int (sprA v g))) := by
    refine v_X12_spreadNow (d := d + 168) ?_
    generalize uI (uI (uI m 187 17 0) 187 34 (0 : Int32)) 187 35 (0 : Int32) = ma at wa fa ⊢
    have ema := em.fx fa rfl
    have e1a : ma.1 187 1 = nI (nE v) := ema.1
    refine ⟨fun c => ?_, fun c => ⟨wa, fa, ?_⟩⟩
    · have hn0 : 0 < nE v := Nat.pos_of_ne_zero (fun z => c (by rw [e1a, z]; rfl))
      have ea : sprA v g = pwG v g (bsF (pwG v g) (nE v)) - pwG v g (wkF (pwG v g) (nE v)) := if_neg (by omega)
      have L : ∀ (j k : Nat) (m1 : Wm), k + j = nE v → WT m1 → Fx (RS [20, 22, 26, 28, 33]) m m1 → AW ad E0 μX12_spreadNow (d + 169) (fun r m' => WT m' ∧ Fx (RS [20, 22, 26, 28, 33]) m m' ∧ r = some (.int (sprA v g))) 29 [(0, .ref (ad 187)), (1, .int (pwG v g (bsF (pwG v g) k))), (2, .int (pwG v g (wkF (pwG v g) k))), (3, .int (nI k))] [] m1 := by
        intro j
        induction j with
        | zero =>
          intro k m1 hk w1 f1
          have e1 : m1.1 187 1 = nI (nE v) := (em.fx f1 rfl).1
          obtain rfl : k = nE v := hk
          exact g_X12_spreadNow_29 (d := d + 168) ⟨fun _ => ⟨w1, f1, by rw [ea]⟩, fun z => absurd (by rw [e1]; exact (nI_leI (a := nE v) (b := nE v) (by omega) (by omega)).mpr (Nat.le_refl _)) z⟩
        | succ j ih =>
          intro k m1 hk w1 f1
          have em1 := em.fx f1 rfl
          have e1 : m1.1 187 1 = nI (nE v) := em1.1
          refine g_X12_spreadNow_29 (d := d + 168) ⟨fun z => absurd (by rw [e1] at z; exact (nI_leI (a := nE v) (b := k) (by omega) (by omega)).mp z) (by omega), fun _ => (powerM (d := d) w1 (hm.fx f1 rfl rfl) em1 (s := k) (by omega)).to ?_⟩
          rintro _ m2 ⟨w2, f2, rfl⟩
          have F2 := f1.tr f2 (RS_sub (l2 := [20, 22, 26, 28, 33]) rfl)
          have T : ∀ (m3 : Wm), WT m3 → Fx (RS [20, 22, 26, 28, 33]) m m3 → AW ad E0 μX12_spreadNow (d + 169) (fun r m' => WT m' ∧ Fx (RS [20, 22, 26, 28, 33]) m m' ∧ r = some (.int (sprA v g))) 58 [(0, .ref (ad 187)), (1, .int (pwG v g (bsF (pwG v g) (k + 1)))), (2, .int (pwG v g (wkF (pwG v g) k))), (3, .int (nI k)), (4, .int (pwG v g k))] [] m3 := fun m3 w3 f3 => by
            refine g_X12_spreadNow_58 (d := d + 168) ⟨fun q => ?_, fun q => ?_⟩
            · have := ih (k + 1) m3 (by omega) w3 f3
              rw [wkF_p q] at this
              rw [nI_1]
              exact this
            · have := ih (k + 1) (uI m3 187 35 (nI k)) (by omega) (w3.n rfl) (f3.i rfl)
              rw [wkF_n q] at this
              rw [nI_1]
              exact this
          refine ⟨_, rfl, fun q => ?_, fun q => ?_⟩
          · have := T m2 w2 F2
            rw [bsF_p q] at this
            exact this
          · have := T (uI m2 187 34 (nI k)) (w2.n rfl) (F2.i rfl)
            rw [bsF_n q] at this
            exact this
      refine (powerM (d := d) wa (hm.fx fa rfl rfl) ema (s := 0) hn0).to ?_
      rintro _ m2 ⟨w2, f2, rfl⟩
      have := L (nE v - 1) 1 m2 (by omega) w2 (fa.tr f2 (RS_sub rfl))
      rw [bsF_1, wkF_1] at this
      exact ⟨_, rfl, this⟩
    · have hn0 : nE v = 0 := (nI_eq (a := nE v) (b := 0) (by omega) (by omega)).mp (e1a.symm.trans c)
      unfold sprA
      rw [if_pos hn0]
  refine v_X12_spread (d := d + 169) (S.to ?_)
  rintro _ m1 ⟨w1, f1, rfl⟩
  have w2 : WT (uI m1 187 16 (0 : Int32)) := w1.t rfl (by decide) (by decide)
  have f2 : Fx (RS [20, 22, 26, 28, 33]) m (uI m1 187 16 (0 : Int32)) := f1.i rfl
  refine ⟨_, rfl, fun _ => ⟨w2, f2, rfl⟩, fun _ => (s_X12_tell w2 (by rw [u_eq]; decide)).to ?_⟩
  rintro _ m3 ⟨w3, f3, rfl, p3⟩
  have e16 : ((uI m1 187 16 (0 : Int32)).1 187 16).toInt = 0 := by
    rw [u_eq]
    rfl
  have p3' : (m3.1 187 16).toInt = ((uI m1 187 16 (0 : Int32)).1 187 16).toInt + 1 := p3
  refine ⟨rfl, (s_X12_tell w3 (by omega)).to ?_⟩
  rintro _ m4 ⟨w4, f4, rfl, -⟩
  exact ⟨rfl, w4, (f2.tr f3 (RS_sub rfl)).tr f4 (RS_sub rfl), rfl⟩
theorem og_spread (c : Nat) : Both ad d μX11_spread μX12_spread [] (InvK (KX KG c)) (InvK (KX KG (c + 1))) := og_s (A := [9, 14]) (B := [20, 22, 26, 28, 33]) (fun m g v H w kd => ⟨sprA v g, e_spreadC (d := d + 294) w kd.1 kd.2.2.1, fun m1 w1 kd1 => e_spreadM (d := d + 130) w1 kd1.2.1 kd1.2.2.2.1⟩) rfl rfl rfl rfl rfl rfl
end SPR
