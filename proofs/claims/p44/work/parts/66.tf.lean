/-! A GAME OF THE MODEL'S, ALL 32 SKILLS TOLD -/
def HX (n : Nat) (m : Wm) (g : GS) : Prop := (∀ k, k < 32 → m.1 188 k = g.1 k) ∧ (∀ k, k < n → m.1 190 k = g.2.1 k) ∧ (∀ k, k < n → m.1 191 k = g.2.2.1 k) ∧ (∀ k, k < n → m.1 192 k = g.2.2.2.1 k) ∧ m.1 187 8 = g.2.2.2.2
section HXS
variable {m m' : Wm} {g : GS} {S : List Nat}
theorem HX.hm {n : Nat} (h : HX n m g) (h8 : n ≤ 8) : HM n m g := ⟨fun k hk => h.1 k (by omega), h.2⟩
theorem HX.fx {n : Nat} (h : HX n m g) (f : Fx (RS S) m m') (e : S.elem 24 = false) (e2 : S.elem 49 = false) : HX n m' g := by
  obtain ⟨h1, h2, h3, h4, h5⟩ := h
  exact ⟨fun k hk => (f.at (nRS (ρ := 24) e rfl)).trans (h1 k hk), fun k hk => (f.at (nRS (ρ := 24) e rfl)).trans (h2 k hk), fun k hk => (f.at (nRS (ρ := 24) e rfl)).trans (h3 k hk), fun k hk => (f.at (nRS (ρ := 24) e rfl)).trans (h4 k hk), (f.at (nRS (ρ := 49) e2 rfl)).trans h5⟩
theorem HX.sk {n : Nat} (h : HX n m g) {i : Nat} {x : Int32} : HX n (uI m 188 i x) (upd g.1 i x, g.2) := by
  obtain ⟨h1, h2, h3, h4, h5⟩ := h
  refine ⟨fun k hk => ?_, h2, h3, h4, h5⟩
  rw [uI_row]
  exact upd_eq (h1 k hk)
theorem HX.pt {n : Nat} (h : HX n m g) {i : Nat} {x : Int32} : HX n (uI m 190 i x) (g.1, upd g.2.1 i x, g.2.2) := by
  obtain ⟨h1, h2, h3, h4, h5⟩ := h
  refine ⟨h1, fun k hk => ?_, h3, h4, h5⟩
  rw [uI_row]
  exact upd_eq (h2 k hk)
theorem HX.ra {n : Nat} (h : HX n m g) {i : Nat} {x : Int32} : HX n (uI m 191 i x) (g.1, g.2.1, upd g.2.2.1 i x, g.2.2.2) := by
  obtain ⟨h1, h2, h3, h4, h5⟩ := h
  refine ⟨h1, h2, fun k hk => ?_, h4, h5⟩
  rw [uI_row]
  exact upd_eq (h3 k hk)
theorem HX.th {n : Nat} (h : HX n m g) {i : Nat} {x : Int32} : HX n (uI m 192 i x) (g.1, g.2.1, g.2.2.1, upd g.2.2.2.1 i x, g.2.2.2.2) := by
  obtain ⟨h1, h2, h3, h4, h5⟩ := h
  refine ⟨h1, h2, h3, fun k hk => ?_, h5⟩
  rw [uI_row]
  exact upd_eq (h4 k hk)
end HXS
section MOX
variable {ad : Nat → Nat} {d s f t a e : Nat} {m m' m0 : Wm} {g : GS} {v : EV} {S : List Nat}
set_option maxHeartbeats 1000000 in
theorem teachX (w : WT m) (f0 : Fx (RS [24]) m0 m) (h : HX (nE v) m g) (hE : EM m v) (hf : f < nE v) (ht : t < nE v) (hft : f ≠ t) : Ct ad μX12_teach (d + 2) [.ref (ad 187), .int (nI f), .int (nI t)] m (fun r m' => r = none ∧ WT m' ∧ Fx (RS [24]) m0 m' ∧ HX (nE v) m' (tchG true v f t g)) := by
  have e22 : (2 : Int32).toNatClampNeg = 2 := rfl
  have ha4 := hE.2.2.2.1
  have hn8 := hE.2.2.1
  refine v_X12_teach (d := d + 1) ((artM (d := d + 1) (h.hm hn8) hE hf ht).to ?_)
  rintro _ m1 ⟨eq, rfl⟩
  obtain rfl := eq.symm
  refine ⟨_, rfl, fun c => ?_, fun c => ⟨rfl, w, f0, ?_⟩⟩
  · rcases artG_of (s := g.1) (f := f) (t := t) (n := aE v) with q | ⟨a, ha, q⟩
    · exact absurd q c
    have G : tchG true v f t g = (upd (upd g.1 (4 * t + a) (g.1 (4 * t + a) + gnG (iE v f) (lE v 1) (g.1 (4 * t + a)) (g.1 (4 * f + a)))) (4 * f + a) (clS (g.1 (4 * f + a) + lE v 2 - 1)), g.2.1, upd g.2.2.1 f (g.2.2.1 f + gnG (iE v f) (lE v 1) (g.1 (4 * t + a)) (g.1 (4 * f + a))), g.2.2.2) := by
      unfold tchG gainG
      rw [if_neg c, q, nI_clamp (by omega), if_pos rfl]
    rw [G, q]
    refine (gainM (d := d) (h.hm hn8) hE hf ht (a := a) (by omega)).to ?_
    rintro _ m2 ⟨eq, rfl⟩
    obtain rfl := eq.symm
    generalize gnG (iE v f) (lE v 1) (g.1 (4 * t + a)) (g.1 (4 * f + a)) = n
    refine ⟨_, rfl, ?_⟩
    rw [m_ix, m_ix, nI_clamp (by omega), nI_clamp (by omega), nI_clamp (by omega), h.1 (4 * t + a) (by omega), e22]
    have r1 : (uI m 188 (4 * t + a) (g.1 (4 * t + a) + n)).1 191 f = g.2.2.1 f := h.2.2.1 f hf
    rw [r1]
    have r2 : (uI (uI m 188 (4 * t + a) (g.1 (4 * t + a) + n)) 191 f (g.2.2.1 f + n)).1 188 (4 * f + a) = g.1 (4 * f + a) := (u_ne (by omega)).trans ((u_ne (by omega)).trans (h.1 (4 * f + a) (by omega)))
    have r3 : (uI (uI m 188 (4 * t + a) (g.1 (4 * t + a) + n)) 191 f (g.2.2.1 f + n)).1 193 2 = lE v 2 := hE.2.2.2.2.1 2 (by decide)
    rw [r2, r3]
    have V1 : vp_in (nI (4 * t + a)) 32 := nat_in (by omega) (by decide)
    have V2 : vp_in (nI (4 * f + a)) 32 := nat_in (by omega) (by decide)
    have V3 : vp_in (nI f) 8 := nat_in (by omega) (by decide)
    exact ⟨V1, V1, V3, V3, V2, V2, rfl, ((w.n rfl).n rfl).n rfl, ((f0.i rfl).i rfl).i rfl, ((h.sk).ra).sk⟩
  · unfold tchG
    rw [if_pos c]
    exact h
set_option maxHeartbeats 1000000 in
theorem settleX (w : WT m) (h : HX (nE v) m g) (hE : EM m v) (ha : a < nE v) (he : e < nE v) (hae : a ≠ e) {th x4 : Int32} (ht : th = 0 ∨ th = 1 ∨ th = 2 ∨ th = 3) :
    Ct ad μX12_settle (d + 3) [.ref (ad 187), .int (nI a), .int (nI e), .int th, .int x4] m (fun r m' => r = none ∧ WT m' ∧ Fx (RS [24]) m m' ∧ HX (nE v) m' (stlG true v a e x4 (thG th a e g))) := by
  have e00 : (0 : Int32).toNatClampNeg = 0 := rfl
  have hn8 := hE.2.2.1
  have lw0 : ∀ m1, Fx (RS [24]) m m1 → m1.1 193 0 = lE v 0 := fun m1 f1 => (f1.at (nRS (ρ := 47) rfl rfl)).trans (hE.2.2.2.2.1 0 (by decide))
  have V1 : vp_in (nI a) 8 := nat_in (by omega) (by decide)
  have V2 : vp_in (nI e) 8 := nat_in (by omega) (by decide)
  have WL : ∀ (wi lo : Nat) (g1 : GS) (m1 : Wm), wi < nE v → lo < nE v → wi ≠ lo → WT m1 → Fx (RS [24]) m m1 → HX (nE v) m1 g1 → AW ad E0 μX12_settle (d + 2 + 1) (fun r m' => r = none ∧ WT m' ∧ Fx (RS [24]) m m' ∧ HX (nE v) m' (stl2 true v wi lo (stl1 true v wi lo (g1.1, upd g1.2.1 wi (g1.2.1 wi + 3), g1.2.2)))) 85 [(0, .ref (ad 187)), (5, .int (nI wi))] [.int (nI lo)] m1 := by
    intro wi lo g1 m1 hwi hlo hwl w1 f1 H1
    have B : ∀ (g2 : GS) (m2 : Wm), WT m2 → Fx (RS [24]) m m2 → HX (nE v) m2 g2 → AW ad E0 μX12_settle (d + 2 + 1) (fun r m' => r = none ∧ WT m' ∧ Fx (RS [24]) m m' ∧ HX (nE v) m' (stl2 true v wi lo g2)) 125 [(0, .ref (ad 187)), (5, .int (nI wi)), (6, .int (nI lo))] [] m2 := by
      intro g2 m2 w2 f2 H2
      have T : lE v 0 = 1 ∨ lE v 0 = 2 → Ct ad μX12_teach (d + 2) [.ref (ad 187), .int (nI lo), .int (nI wi)] m2 (fun r m1 => r = none ∧ WT m1 ∧ Fx (RS [24]) m m1 ∧ HX (nE v) m1 (stl2 true v wi lo g2)) := fun q => by
        refine (teachX (d := d) w2 f2 H2 (hE.fx f2 rfl) hlo hwi (Ne.symm hwl)).to ?_
        rintro _ m3 ⟨rfl, w3, f3, H3⟩
        refine ⟨rfl, w3, f3, ?_⟩
        unfold stl2
        rw [if_pos q]
        exact H3
      refine g_X12_settle_125 ?_
      rw [e00, lw0 m2 f2]
      refine ⟨fun q => (T (Or.inl q)).to (fun r m1 z => ⟨z.1, rfl, z.2⟩), fun n1 => ⟨fun n2 => ⟨rfl, w2, f2, ?_⟩, fun q => (T (Or.inr q)).to (fun r m1 z => ⟨z.1, rfl, z.2⟩)⟩⟩
      unfold stl2
      rw [if_neg (fun z => z.elim n1 n2)]
      exact H2
    have H3 : HX (nE v) (uI m1 190 wi (g1.2.1 wi + 3)) (g1.1, upd g1.2.1 wi (g1.2.1 wi + 3), g1.2.2) := H1.pt
    have w3 : WT (uI m1 190 wi (g1.2.1 wi + 3)) := w1.n rfl
    have f3 : Fx (RS [24]) m (uI m1 190 wi (g1.2.1 wi + 3)) := f1.i rfl
    generalize (g1.1, upd g1.2.1 wi (g1.2.1 wi + 3), g1.2.2) = g3 at H3 ⊢
    have T : lE v 0 = 0 ∨ lE v 0 = 2 → Ct ad μX12_teach (d + 2) [.ref (ad 187), .int (nI wi), .int (nI lo)] (uI m1 190 wi (g1.2.1 wi + 3)) (fun r m2 => r = none ∧ AW ad E0 μX12_settle (d + 2 + 1) (fun r m' => r = none ∧ WT m' ∧ Fx (RS [24]) m m' ∧ HX (nE v) m' (stl2 true v wi lo (stl1 true v wi lo g3))) 125 [(0, .ref (ad 187)), (5, .int (nI wi)), (6, .int (nI lo))] [] m2) := fun q => by
      refine (teachX (d := d) w3 f3 H3 (hE.fx f3 rfl) hwi hlo hwl).to ?_
      rintro _ m4 ⟨rfl, w4, f4, H4⟩
      refine ⟨rfl, ?_⟩
      have es : stl1 true v wi lo g3 = tchG true v wi lo g3 := if_pos q
      rw [es]
      exact B _ _ w4 f4 H4
    refine g_X12_settle_85 ?_
    rw [nI_clamp (by omega), H1.2.1 wi hwi, e00, lw0 _ f3]
    refine ⟨nat_in (by omega) (by decide), nat_in (by omega) (by decide), fun q => T (Or.inl q), fun n0 => ⟨fun n2 => ?_, fun q => T (Or.inr q)⟩⟩
    have es : stl1 true v wi lo g3 = g3 := if_neg (fun z => z.elim n0 n2)
    rw [es]
    exact B _ _ w3 f3 H3
  have A : ∀ (g1 : GS) (m1 : Wm), WT m1 → Fx (RS [24]) m m1 → HX (nE v) m1 g1 → AW ad E0 μX12_settle (d + 2 + 1) (fun r m' => r = none ∧ WT m' ∧ Fx (RS [24]) m m' ∧ HX (nE v) m' (stlG true v a e x4 g1)) 36 [(0, .ref (ad 187)), (1, .int (nI a)), (2, .int (nI e)), (4, .int x4)] [] m1 := by
    intro g1 m1 w1 f1 H1
    refine g_X12_settle_36 ⟨fun n2 => ⟨fun n0 => ⟨fun _ => ?_, fun q => absurd q n0⟩, fun q0 => ⟨fun q => absurd q0 q, fun _ => ?_⟩⟩, fun q2 => ?_⟩
    · have := WL e a g1 m1 he ha (Ne.symm hae) w1 f1 H1
      unfold stlG ptG
      rw [if_neg n2, if_neg n0, if_neg n0, if_pos rfl, if_neg n2]
      exact this
    · have := WL a e g1 m1 ha he hae w1 f1 H1
      unfold stlG ptG
      rw [if_neg n2, if_pos q0, if_pos q0, if_pos rfl, if_neg n2]
      exact this
    · rw [nI_clamp (by omega), nI_clamp (by omega), H1.2.1 a ha]
      have e1 : (uI m1 190 a (g1.2.1 a + 1)).1 190 e = upd g1.2.1 a (g1.2.1 a + 1) e := H1.pt.2.1 e he
      rw [e1]
      refine ⟨V1, V1, V2, V2, rfl, (w1.n rfl).n rfl, (f1.i rfl).i rfl, ?_⟩
      unfold stlG ptG
      rw [if_pos q2, if_pos rfl, if_pos q2]
      exact (H1.pt).pt
  have M : ∀ (g1 : GS) (m1 : Wm), WT m1 → Fx (RS [24]) m m1 → HX (nE v) m1 g1 → AW ad E0 μX12_settle (d + 2 + 1) (fun r m' => r = none ∧ WT m' ∧ Fx (RS [24]) m m' ∧ HX (nE v) m' (stlG true v a e x4 (g1.1, g1.2.1, g1.2.2.1, (if th = 2 ∨ th = 3 then upd g1.2.2.2.1 e (g1.2.2.2.1 e + 1) else g1.2.2.2.1), g1.2.2.2.2))) 18 [(0, .ref (ad 187)), (1, .int (nI a)), (2, .int (nI e)), (3, .int th), (4, .int x4)] [] m1 := by
    intro g1 m1 w1 f1 H1
    refine g_X12_settle_18 ((hasM_3 (y := 1) (Or.inr rfl) ht).to ?_)
    rintro _ m2 ⟨eq, rfl⟩
    obtain rfl := eq.symm
    refine ⟨_, rfl, fun c => ?_, fun c => ?_⟩
    · have n2 : ¬ (th = 2 ∨ th = 3) := fun z => by rw [if_pos (Or.inr ⟨rfl, z⟩)] at c; exact absurd c (by decide)
      rw [if_neg n2]
      exact A g1 m1 w1 f1 H1
    · have n2 : th = 2 ∨ th = 3 := by
        by_cases z : th = 2 ∨ th = 3
        · exact z
        · rw [if_neg (fun q => q.elim (fun q => absurd q.1 (by decide)) (fun q => z q.2))] at c; exact absurd rfl c
      rw [if_pos n2, nI_clamp (by omega), H1.2.2.2.1 e he]
      exact ⟨V2, V2, A _ _ (w1.n rfl) (f1.i rfl) H1.th⟩
  refine v_X12_settle ((hasM_3 (y := 0) (Or.inl rfl) ht).to ?_)
  rintro _ m2 ⟨eq, rfl⟩
  obtain rfl := eq.symm
  refine ⟨_, rfl, fun c => ?_, fun c => ?_⟩
  · have n2 : ¬ (th = 1 ∨ th = 3) := fun z => by rw [if_pos (Or.inl ⟨rfl, z⟩)] at c; exact absurd c (by decide)
    have := M g m w Fx.rf h
    unfold thG
    rw [if_neg n2]
    exact this
  · have n2 : th = 1 ∨ th = 3 := by
      by_cases z : th = 1 ∨ th = 3
      · exact z
      · rw [if_neg (fun q => q.elim (fun q => z q.2) (fun q => absurd q.1 (by decide)))] at c; exact absurd rfl c
    have := M _ _ (w.n (a := 192) (k := a) (v := g.2.2.2.1 a + 1) rfl) (Fx.rf.i rfl) h.th
    unfold thG
    rw [if_pos n2, nI_clamp (by omega), h.2.2.2.1 a ha]
    exact ⟨V1, V1, this⟩
end MOX
section QTX
variable {ad : Nat → Nat} {d n s a e : Nat} {m m0 : Wm} {g g' g0 : GS} {v : EV} {th : Int32}
theorem goQuietX (w : WT m) (h : HX (nE v) m g) (hE : EM m v) (hL : HL (nE v) 204 0 m g0) (h2 : g.2 = g0.2) (ha : a < nE v) (he : e < nE v) (hae : a ≠ e) (ht : th = 0 ∨ th = 1 ∨ th = 2 ∨ th = 3) : Ct ad μX12_goQuiet (d + 170) [.ref (ad 187), .int (nI a), .int (nI e), .int th] m (fun r m' => r = none ∧ WT m' ∧ Fx (RS [22, 24, 28]) m m' ∧ HX (nE v) m' (qtG v a e th g)) := by
  refine v_X12_goQuiet (d := d + 169) ((winnerM (d := d) w (h.hm hE.2.2.1) hE ha he).to ?_)
  rintro _ m1 ⟨w1, f1, rfl⟩
  refine ⟨_, rfl, (settleX (d := d + 166) w1 (h.fx f1 rfl rfl) (hE.fx f1 rfl) ha he hae ht).to ?_⟩
  rintro _ m2 ⟨rfl, w2, f2, hm2⟩
  have F2 : Fx (RS [22, 24, 28]) m m2 := (Fx.tr Fx.rf f1 (RS_sub rfl)).tr f2 (RS_sub rfl)
  refine ⟨rfl, ?_⟩
  have L : ∀ (n j : Nat) (m3 : Wm), j + n = 8 → WT m3 → Fx (RS [22, 24, 28]) m m3 → (∀ k, m3.1 188 k = m2.1 188 k) → m3.1 187 8 = m2.1 187 8 → (∀ k, k < j → k < nE v → m3.1 190 k = g0.2.1 k ∧ m3.1 191 k = g0.2.2.1 k ∧ m3.1 192 k = g0.2.2.2.1 k) → AW ad E0 μX12_goQuiet (d + 170) (fun r m' => r = none ∧ WT m' ∧ Fx (RS [22, 24, 28]) m m' ∧ HX (nE v) m' (qtG v a e th g)) 17 [(0, .ref (ad 187)), (4, .int (nI j))] [] m3 := by
    intro n
    induction n with
    | zero =>
      intro j m3 hj w3 f3 k1 k2 k3
      refine g_X12_goQuiet_17 (d := d + 169) ⟨fun _ => ⟨rfl, w3, f3, fun k hk => ?_, fun k hk => ?_, fun k hk => ?_, fun k hk => ?_, ?_⟩, fun c => absurd ((le_l 8 8 rfl (by decide) (by omega)).mpr (by omega)) c⟩
      · rw [k1 k, hm2.1 k hk]
        have e1 : (stlG true v a e (wnG v g a e th) (thG th a e g)).1 = (qtG v a e th g).1 := stl_sk (g := thG th a e g) (g' := g) rfl
        exact congrFun e1 k
      · have e2 : (qtG v a e th g).2 = g0.2 := stl_f2.trans h2
        rw [e2]
        exact (k3 k (by have := hE.2.2.1; omega) hk).1
      · have e2 : (qtG v a e th g).2 = g0.2 := stl_f2.trans h2
        rw [e2]
        exact (k3 k (by have := hE.2.2.1; omega) hk).2.1
      · have e2 : (qtG v a e th g).2 = g0.2 := stl_f2.trans h2
        rw [e2]
        exact (k3 k (by have := hE.2.2.1; omega) hk).2.2
      · rw [k2, hm2.2.2.2.2]
        have e2 : (qtG v a e th g).2 = g.2 := stl_f2
        rw [e2, stl_lu]
        rfl
    | succ n ih =>
      intro j m3 hj w3 f3 k1 k2 k3
      have hL3 : HL (nE v) 204 0 m3 g0 := hL.fx (ρ := 34) f3 (fun _ => rfl) rfl
      refine g_X12_goQuiet_17 (d := d + 169) ⟨fun c => absurd ((le_l 8 8 rfl (by decide) (by omega)).mp c) (by omega), fun _ => ?_⟩
      rw [l_mul 3 3 rfl, l_add 32 32 rfl, add_l 1 1 rfl, add_l 2 2 rfl, nI_clamp (by omega), nI_clamp (by omega), nI_clamp (by omega), nI_clamp (by omega), nI_1]
      refine ⟨nat_in (by omega) (by decide), nat_in (by omega) (by decide), nat_in (by omega) (by decide), nat_in (by omega) (by decide), nat_in (by omega) (by decide), nat_in (by omega) (by decide), ?_⟩
      refine ih (j + 1) _ (by omega) (((w3.n rfl).n rfl).n rfl) (((f3.i rfl).i rfl).i rfl) (fun k => ?_) ?_ (fun k hk hn => ?_)
      · exact ((u_ne (by omega)).trans ((u_ne (by omega)).trans (u_ne (by omega)))).trans (k1 k)
      · exact ((u_ne (by omega)).trans ((u_ne (by omega)).trans (u_ne (by omega)))).trans k2
      · obtain ⟨-, -, l1, l2, l3, -⟩ := hL3
        by_cases q : k = j
        · subst q
          have t1 := l1 k hn
          have t2 := l2 k hn
          have t3 := l3 k hn
          rw [Nat.zero_add] at t1 t2 t3
          refine ⟨?_, ?_, ?_⟩
          · exact (u_ne (by omega)).trans ((u_ne (by omega)).trans (u_eq.trans t1))
          · exact (u_ne (by omega)).trans (u_eq.trans ((u_ne (by omega)).trans t2))
          · exact u_eq.trans ((u_ne (by omega)).trans ((u_ne (by omega)).trans t3))
        · obtain ⟨p1, p2, p3⟩ := k3 k (by omega) hn
          refine ⟨?_, ?_, ?_⟩
          · exact (u_ne (by omega)).trans ((u_ne (by omega)).trans ((u_ne (by omega)).trans p1))
          · exact (u_ne (by omega)).trans ((u_ne (by omega)).trans ((u_ne (by omega)).trans p2))
          · exact (u_ne (by omega)).trans ((u_ne (by omega)).trans ((u_ne (by omega)).trans p3))
  exact L 8 0 m2 (by omega) w2 F2 (fun _ => rfl) rfl (fun k hk => absurd hk (by omega))
end QTX
section STB
variable {ad : Nat → Nat} {d b ρ : Nat} {m m0 : Wm} {g : GS} {v : EV}
theorem strCb (hb : SS b ρ) (hρ : GR ρ) (w : WT m) (hc : HC b m g) (ec : EC m v) (hn0 : 0 < nE v) : Ct ad μX1_strongest (d + 5) [.ref (ad 3), .ref (ad b)] m (fun r m' => WT m' ∧ Fx (RS [14]) m m' ∧ r = some (.int (nI (bsF (pwG v g) (nE v))))) := by
  have n8 := ec.2.2.1
  have L : ∀ (j k : Nat) (m1 : Wm), 1 ≤ k → k + j = nE v → WT m1 → Fx (RS [14]) m m1 → AW ad E0 μX1_strongest (d + 5) (fun r m' => WT m' ∧ Fx (RS [14]) m m' ∧ r = some (.int (nI (bsF (pwG v g) (nE v))))) 7 [(0, .ref (ad 3)), (1, .ref (ad b)), (2, .int (nI (bsF (pwG v g) k))), (3, .int (pwG v g (bsF (pwG v g) k))), (4, .int (nI k))] [] m1 := by
    intro j
    induction j with
    | zero =>
      intro k m1 h1 hk w1 f1
      have e33 : m1.1 3 3 = nI (nE v) := (ec.fx f1 rfl).1
      obtain rfl : k = nE v := hk
      exact g_X1_strongest_7 (d := d + 4) hb.1 ⟨fun _ => ⟨w1, f1, rfl⟩, fun z => absurd (by rw [e33]; exact (nI_leI (a := nE v) (b := nE v) (by omega) (by omega)).mpr (Nat.le_refl _)) z⟩
    | succ j ih =>
      intro k m1 h1 hk w1 f1
      have ec1 := ec.fx f1 rfl
      have e33 : m1.1 3 3 = nI (nE v) := ec1.1
      refine g_X1_strongest_7 (d := d + 4) hb.1 ⟨fun z => absurd (by rw [e33] at z; exact (nI_leI (a := nE v) (b := k) (by omega) (by omega)).mp z) (by omega), fun _ => (powCb (d := d) hb hρ (s := k) w1 (hc.fx hb f1 hρ.e2) ec1 (by omega)).to ?_⟩
      rintro _ m2 ⟨w2, f2, rfl⟩
      have := ih (k + 1) m2 (by omega) (by omega) w2 (f1.tr f2 (fun _ _ h => h))
      rw [nI_1]
      refine ⟨_, rfl, fun z => absurd ((nI_eq (a := k) (b := 0) (by omega) (by omega)).mp z) (by omega), fun _ => ⟨fun q => ?_, fun q => ?_⟩⟩
      · rw [bsF_p q] at this
        exact this
      · rw [bsF_n q] at this
        exact this
  refine v_X1_strongest (d := d + 4) hb.1 (g_X1_strongest_7 (d := d + 4) hb.1 ⟨fun z => absurd (by rw [ec.1] at z; exact (nI_leI (a := nE v) (b := 0) (by omega) (by omega)).mp z) (by omega), fun _ => (powCb (d := d) hb hρ (s := 0) w hc ec (by decide)).to ?_⟩)
  rintro _ m2 ⟨w2, f2, rfl⟩
  refine ⟨_, rfl, fun _ => ?_, fun z => absurd rfl z⟩
  have := L (nE v - 1) 1 m2 (by decide) (by omega) w2 f2
  rw [bsF_1] at this
  exact this
theorem weaCb (hb : SS b ρ) (hρ : GR ρ) (w : WT m) (hc : HC b m g) (ec : EC m v) (hn0 : 0 < nE v) : Ct ad μX1_weakest (d + 5) [.ref (ad 3), .ref (ad b)] m (fun r m' => WT m' ∧ Fx (RS [14]) m m' ∧ r = some (.int (nI (wkF (pwG v g) (nE v))))) := by
  have n8 := ec.2.2.1
  have L : ∀ (j k : Nat) (m1 : Wm), 1 ≤ k → k + j = nE v → WT m1 → Fx (RS [14]) m m1 → AW ad E0 μX1_weakest (d + 5) (fun r m' => WT m' ∧ Fx (RS [14]) m m' ∧ r = some (.int (nI (wkF (pwG v g) (nE v))))) 7 [(0, .ref (ad 3)), (1, .ref (ad b)), (2, .int (nI (wkF (pwG v g) k))), (3, .int (pwG v g (wkF (pwG v g) k))), (4, .int (nI k))] [] m1 := by
    intro j
    induction j with
    | zero =>
      intro k m1 h1 hk w1 f1
      have e33 : m1.1 3 3 = nI (nE v) := (ec.fx f1 rfl).1
      obtain rfl : k = nE v := hk
      exact g_X1_weakest_7 (d := d + 4) hb.1 ⟨fun _ => ⟨w1, f1, rfl⟩, fun z => absurd (by rw [e33]; exact (nI_leI (a := nE v) (b := nE v) (by omega) (by omega)).mpr (Nat.le_refl _)) z⟩
    | succ j ih =>
      intro k m1 h1 hk w1 f1
      have ec1 := ec.fx f1 rfl
      have e33 : m1.1 3 3 = nI (nE v) := ec1.1
      refine g_X1_weakest_7 (d := d + 4) hb.1 ⟨fun z => absurd (by rw [e33] at z; exact (nI_leI (a := nE v) (b := k) (by omega) (by omega)).mp z) (by omega), fun _ => (powCb (d := d) hb hρ (s := k) w1 (hc.fx hb f1 hρ.e2) ec1 (by omega)).to ?_⟩
      rintro _ m2 ⟨w2, f2, rfl⟩
      have := ih (k + 1) m2 (by omega) (by omega) w2 (f1.tr f2 (fun _ _ h => h))
      rw [nI_1]
      refine ⟨_, rfl, fun z => absurd ((nI_eq (a := k) (b := 0) (by omega) (by omega)).mp z) (by omega), fun _ => ⟨fun q => ?_, fun q => ?_⟩⟩
      · rw [wkF_p q] at this
        exact this
      · rw [wkF_n q] at this
        exact this
  refine v_X1_weakest (d := d + 4) hb.1 (g_X1_weakest_7 (d := d + 4) hb.1 ⟨fun z => absurd (by rw [ec.1] at z; exact (nI_leI (a := nE v) (b := 0) (by omega) (by omega)).mp z) (by omega), fun _ => (powCb (d := d) hb hρ (s := 0) w hc ec (by decide)).to ?_⟩)
  rintro _ m2 ⟨w2, f2, rfl⟩
  refine ⟨_, rfl, fun _ => ?_, fun z => absurd rfl z⟩
  have := L (nE v - 1) 1 m2 (by decide) (by omega) w2 f2
  rw [wkF_1] at this
  exact this
end STB
section SPN
variable {ad : Nat → Nat} {d : Nat} {m m0 : Wm} {g : GS} {v : EV}
theorem spreadNowM (w : WT m) (hm : HM (nE v) m g) (em : EM m v) : Ct ad μX12_spreadNow (d + 169) [.ref (ad 187)] m (fun r m' => WT m' ∧ Fx (RS [22, 28, 33]) m m' ∧ r = some (.int (sprA v g))) := by
  have n8 := em.2.2.1
  have wa : WT (uI (uI m 187 34 (0 : Int32)) 187 35 (0 : Int32)) := (w.n rfl).n rfl
  have fa : Fx (RS [22, 28, 33]) m (uI (uI m 187 34 (0 : Int32)) 187 35 (0 : Int32)) := Fx.i (Fx.i Fx.rf rfl) rfl
  refine v_X12_spreadNow (d := d + 168) ?_
  generalize uI (uI m 187 34 (0 : Int32)) 187 35 (0 : Int32) = ma at wa fa ⊢
  have ema := em.fx fa rfl
  have e1a : ma.1 187 1 = nI (nE v) := ema.1
  refine ⟨fun c => ?_, fun c => ⟨wa, fa, ?_⟩⟩
  · have hn0 : 0 < nE v := Nat.pos_of_ne_zero (fun z => c (by rw [e1a, z]; rfl))
    have ea : sprA v g = pwG v g (bsF (pwG v g) (nE v)) - pwG v g (wkF (pwG v g) (nE v)) := if_neg (by omega)
    have L : ∀ (j k : Nat) (m1 : Wm), k + j = nE v → WT m1 → Fx (RS [22, 28, 33]) m m1 → AW ad E0 μX12_spreadNow (d + 169) (fun r m' => WT m' ∧ Fx (RS [22, 28, 33]) m m' ∧ r = some (.int (sprA v g))) 29 [(0, .ref (ad 187)), (1, .int (pwG v g (bsF (pwG v g) k))), (2, .int (pwG v g (wkF (pwG v g) k))), (3, .int (nI k))] [] m1 := by
      intro j
      induction j with
      | zero =>
        intro k m1 hk w1 f1
        have e1 : m1.1 187 1 = nI (nE v) := (em.fx f1 rfl).1
        obtain rfl : k = nE v := hk
        exact g_X12_spreadNow_29 (d := d + 168) ⟨fun _ => ⟨w1, f1, by rw [ea]⟩, fun z => absurd (by rw [e1]; exact (nI_leI (a := nE v) (b := nE v) (by omega) (by omega)).mpr (Nat.le_refl _)) z⟩
      | succ j ih =>
        intro k m1 hk w1 f1
        have em1 := em.fx f1 rfl
        have e1 : m1.1 187 1 = nI (nE v) := em1.1
        refine g_X12_spreadNow_29 (d := d + 168) ⟨fun z => absurd (by rw [e1] at z; exact (nI_leI (a := nE v) (b := k) (by omega) (by omega)).mp z) (by omega), fun _ => (powerM (d := d) w1 (hm.fx f1 rfl rfl) em1 (s := k) (by omega)).to ?_⟩
        rintro _ m2 ⟨w2, f2, rfl⟩
        have F2 := f1.tr f2 (RS_sub (l2 := [22, 28, 33]) rfl)
        have T : ∀ (m3 : Wm), WT m3 → Fx (RS [22, 28, 33]) m m3 → AW ad E0 μX12_spreadNow (d + 169) (fun r m' => WT m' ∧ Fx (RS [22, 28, 33]) m m' ∧ r = some (.int (sprA v g))) 58 [(0, .ref (ad 187)), (1, .int (pwG v g (bsF (pwG v g) (k + 1)))), (2, .int (pwG v g (wkF (pwG v g) k))), (3, .int (nI k)), (4, .int (pwG v g k))] [] m3 := fun m3 w3 f3 => by
          refine g_X12_spreadNow_58 (d := d + 168) ⟨fun q => ?_, fun q => ?_⟩
          · have := ih (k + 1) m3 (by omega) w3 f3
            rw [wkF_p q] at this
            rw [nI_1]
            exact this
          · have := ih (k + 1) (uI m3 187 35 (nI k)) (by omega) (w3.n rfl) (f3.i rfl)
            rw [wkF_n q] at this
            rw [nI_1]
            exact this
        refine ⟨_, rfl, fun q => ?_, fun q => ?_⟩
        · have := T m2 w2 F2
          rw [bsF_p q] at this
          exact this
        · have := T (uI m2 187 34 (nI k)) (w2.n rfl) (F2.i rfl)
          rw [bsF_n q] at this
          exact this
    refine (powerM (d := d) wa (hm.fx fa rfl rfl) ema (s := 0) hn0).to ?_
    rintro _ m2 ⟨w2, f2, rfl⟩
    have := L (nE v - 1) 1 m2 (by omega) w2 (fa.tr f2 (RS_sub rfl))
    rw [bsF_1, wkF_1] at this
    exact ⟨_, rfl, this⟩
  · have hn0 : nE v = 0 := (nI_eq (a := nE v) (b := 0) (by omega) (by omega)).mp (e1a.symm.trans c)
    unfold sprA
    rw [if_pos hn0]
end SPN
/-! THE SEARCH OF THE MODEL -/
/-- states as they lie in the model -/
def SM (m : Wm) (S : SSt) : Prop := TBM m (nS S) ∧ (∀ i, i < nS S → m.2.1 205 i = lN (mkN (kS S i) 0 16) ∧ m.2.1 206 i = lN (mkN (kS S i) 16 16) ∧ SR7 (kS S i)) ∧ ∀ i, i < nS S → m.1 207 i = nI (dS S i) ∧ dS S i ≤ i
def MRL : List Nat := [22, 24, 28, 34, 35, 49]
/-- between two tries -/
def MTi (v : EV) (g : GS) (S : SSt) (m0 m : Wm) : Prop := WT m ∧ Fx (RS [22, 24, 28, 34, 35, 49]) m0 m ∧ ST m ∧ SM m S ∧ HL (nE v) 204 0 m g ∧ EM m v ∧ (∃ f, HX (nE v) m (f, g.2)) ∧ ZI v S
def MN (v : EV) (g : GS) (m0 m : Wm) : Prop := WT m ∧ Fx (RS [22, 24, 28, 34, 35, 49]) m0 m ∧ HL (nE v) 204 0 m g ∧ EM m v
def MSq (v : EV) (g : GS) (T : Option SSt) (m0 : Wm) (r : Option Value) (m' : Wm) : Prop := WT m' ∧ Fx (RS [22, 24, 28, 34, 35, 49]) m0 m' ∧ HM (nE v) m' g ∧ HL (nE v) 204 0 m' g ∧ EM m' v ∧ ((∃ S, T = some S ∧ r = some (.int 1) ∧ SM m' S ∧ ST m' ∧ ZI v S) ∨ (T = none ∧ r = some (.int 0)))
section SMS
variable {ad : Nat → Nat} {d t a w b : Nat} {m m' m0 : Wm} {g : GS} {v : EV} {S : SSt} {R : List Nat} {f : Nat → Int32} {x1 x2 : Int32} {T : Option SSt}
theorem SM.fx (h : SM m S) (F : Fx (RS R) m m') (e : R.elem 35 = false) : SM m' S := by
  obtain ⟨h1, h2, h3⟩ := h
  refine ⟨h1.fx F e, fun i hi => ?_, fun i hi => ⟨(F.at (nRS (ρ := 35) e rfl)).trans (h3 i hi).1, (h3 i hi).2⟩⟩
  rw [(fx_cl (a := 205) (ρ := 35) F (fun _ => rfl) e).2, (fx_cl (a := 206) (ρ := 35) F (fun _ => rfl) e).2]
  exact h2 i hi
theorem SM.n (h : SM m S) : nS S ≤ 3000 := h.1.2.1
theorem SM.c43 (h : SM m S) : m.1 187 43 = nI (nS S) := h.1.1
theorem stateNowS {q : Nat} (w0 : WT m) (s : ST m) (h : SM m S) (hf : ∀ k, k < 32 → m.1 188 k = f k) (h7 : SR7 f) (hq : (x1 = -1 ∧ q = 0) ∨ ∃ t, t < nS S ∧ x1 = nI t ∧ q = dS S t + 1) : Ct ad μX12_stateNow (d + 1) [.ref (ad 187), .int x1, .int x2, .int 3000] m (fun r m' => WT m' ∧ Fx (RS [35]) m m' ∧ ST m' ∧
    ((∃ i, i < nS S ∧ EQ32 (kS S i) f ∧ r = some (.int (nI i)) ∧ SM m' S) ∨ (¬ InS S f ∧ ¬ nS S < 3000 ∧ r = some (.int (-1)) ∧ SM m' S) ∨ (¬ InS S f ∧ nS S < 3000 ∧ r = some (.int (nI (nS S))) ∧ SM m' (adS f q S)))) := by
  have hN := h.n
  have hx : x1 = -1 ∨ ∃ p, p < nS S ∧ x1 = nI p := hq.imp (fun z => z.1) (fun ⟨t, h1, h2, _⟩ => ⟨t, h1, h2⟩)
  refine (stateNowX (d := d) w0 s h.1 hf h7 hx).to ?_
  rintro r m' ⟨w1, F, s1, hk, qq⟩
  have nin : (∀ i, i < nS S → ¬ (m.2.1 205 i = lN (mkN f 0 16) ∧ m.2.1 206 i = lN (mkN f 16 16))) → ¬ InS S f := fun q ⟨i, hi, e⟩ => by
    obtain ⟨a1, a2, a3⟩ := h.2.1 i hi
    obtain ⟨e1, e2⟩ := mk_e32 e
    exact q i hi ⟨by rw [a1, e1], by rw [a2, e2]⟩
  have old : TBM m' (nS S) → SM m' S := fun t => ⟨t, fun i hi => by rw [(hk i hi).1, (hk i hi).2.1]; exact h.2.1 i hi, fun i hi => by rw [(hk i hi).2.2]; exact h.2.2 i hi⟩
  refine ⟨w1, F, s1, ?_⟩
  rcases qq with ⟨i, hi, q1, q2, rfl, q3⟩ | ⟨q1, q2, rfl, q3⟩ | ⟨q1, q2, rfl, q3, q4, q5, q6, q7⟩
  · obtain ⟨a1, a2, a3⟩ := h.2.1 i hi
    rw [a1] at q1
    rw [a2] at q2
    exact Or.inl ⟨i, hi, mk_inj a3 h7 (lN_inj (mk_48 a3 (by decide)) (mk_48 h7 (by decide)) q1) (lN_inj (mk_48 a3 (by decide)) (mk_48 h7 (by decide)) q2), rfl, old q3⟩
  · exact Or.inr (Or.inl ⟨nin q1, by omega, rfl, old q3⟩)
  · refine Or.inr (Or.inr ⟨nin q1, q2, rfl, q3, fun i hi => ?_, fun i hi => ?_⟩)
    · rw [adS_n] at hi
      by_cases c : i = nS S
      · subst c
        rw [adS_kn]
        exact ⟨q4, q5, h7⟩
      · rw [adS_k (by omega), (hk i (by omega)).1, (hk i (by omega)).2.1]
        exact h.2.1 i (by omega)
    · rw [adS_n] at hi
      by_cases c : i = nS S
      · subst c
        rw [adS_dn]
        rcases hq with ⟨z1, z2⟩ | ⟨t, z1, z2, z3⟩
        · rw [q6 z1, z2]
          exact ⟨rfl, Nat.zero_le _⟩
        · obtain ⟨y1, y2⟩ := h.2.2 t z1
          rw [q7 t z1 z2, y1, z3, nI_1]
          exact ⟨rfl, by omega⟩
      · rw [adS_d (by omega), (hk i (by omega)).2.2]
        exact h.2.2 i (by omega)
/-- all places emptied, what is behind the last side 0, what stood laid aside -/
theorem clearX (w0 : WT m) (hm : HM (nE v) m g) (hE : EM m v) (hz : ∀ k, 4 * nE v ≤ k → k < 32 → g.1 k = 0) : Ct ad μX12_clearStates (d + 1) [.ref (ad 187)] m (fun r m' => r = none ∧ WT m' ∧ Fx (RS [24, 34, 35]) m m' ∧ ST m' ∧ TBM m' 0 ∧ HX (nE v) m' g ∧ HL (nE v) 204 0 m' g) := by
  have z0 : (0 : Int32).toInt = 0 := rfl
  have hs8 := hE.2.2.1
  have hs := hE.1
  generalize nE v = sd at hm hs8 hs hz ⊢
  have L2 : ∀ n x (m1 : Wm), x + n = 32 → 4 * sd ≤ x → WT m1 → Fx (RS [24, 34, 35]) m m1 → ST m1 → TBM m1 0 → HM sd m1 g → (∀ k, 4 * sd ≤ k → k < x → m1.1 188 k = 0) → AW ad E0 μX12_clearStates (d + 1) (fun r m' => r = none ∧ WT m' ∧ Fx (RS [24, 34, 35]) m m' ∧ ST m' ∧ TBM m' 0 ∧ HX sd m' g ∧ HL sd 204 0 m' g) 34 [(0, .ref (ad 187)), (1, .int (nI x))] [] m1 := by
    intro n
    induction n with
    | zero =>
      intro x m1 hx hxs w1 f1 s1 e1 hm1 k1
      obtain rfl : x = 32 := by omega
      refine g_X12_clearStates_34 ⟨fun _ => (layH (x := 0) (na := 57) (reg := 34) rfl (by decide) (by decide) (fun _ => rfl) (fun _ => rfl) w1 hm1 hs8 (by decide)).to ?_, fun c => absurd (by decide) c⟩
      rintro _ m2 ⟨rfl, w2, f2, hq, -, -⟩
      have hm2 := hm1.fx f2 rfl rfl
      refine ⟨rfl, rfl, w2, f1.tr f2 (RS_sub rfl), s1.fx f2 rfl, e1.fx f2 rfl, ⟨fun k hk => ?_, hm2.2⟩, hq⟩
      by_cases c : k < 4 * sd
      · exact hm2.1 k c
      · rw [f2.at (a := 188) (k := k) (nRS (ρ := 24) rfl rfl), k1 k (by omega) hk, hz k (by omega) hk]
    | succ n ih =>
      intro x m1 hx hxs w1 f1 s1 e1 hm1 k1
      refine g_X12_clearStates_34 ⟨fun c => absurd ((le_l 32 32 rfl (by omega) (by omega)).mp c) (by omega), fun _ => ⟨nat_in (by omega) (by decide), ?_⟩⟩
      rw [nI_1]
      rw [nI_clamp (by omega)]
      have F : Fx (RS [24]) m1 (uI m1 188 x 0) := Fx.i Fx.rf rfl
      refine ih (x + 1) _ (by omega) (by omega) (w1.n rfl) (f1.i rfl) (s1.fx F rfl) (e1.fx F rfl) (hm1.z hxs) (fun k h1 h2 => ?_)
      by_cases c : k = x
      · subst c
        exact u_eq
      · exact (u_ne (fun q => c q.2)).trans (k1 k h1 (by omega))
  have L1 : ∀ n x (m1 : Wm), x + n = 8192 → WT m1 → Fx (RS [24, 34, 35]) m m1 → (∀ k, k < x → m1.1 210 k = 0) → HM sd m1 g → AW ad E0 μX12_clearStates (d + 1) (fun r m' => r = none ∧ WT m' ∧ Fx (RS [24, 34, 35]) m m' ∧ ST m' ∧ TBM m' 0 ∧ HX sd m' g ∧ HL sd 204 0 m' g) 2 [(0, .ref (ad 187)), (1, .int (nI x))] [] m1 := by
    intro n
    induction n with
    | zero =>
      intro x m1 hx w1 f1 h hm1
      obtain rfl : x = 8192 := by omega
      refine g_X12_clearStates_2 ⟨fun _ => ?_, fun c => absurd (by decide) c⟩
      have es : m1.1 187 1 = nI sd := (f1.at (nRS (ρ := 23) rfl rfl)).trans hs
      show AW ad E0 μX12_clearStates (d + 1) _ 34 [(0, .ref (ad 187)), (1, .int ((4 : Int32) * (m1.1 187 1)))] [] (uI m1 187 43 0)
      rw [es, l_mul 4 4 rfl]
      refine L2 (32 - 4 * sd) _ _ (by omega) (Nat.le_refl _) (w1.t rfl (by decide) (by decide)) (f1.i rfl) ⟨?_, fun k hk => ?_, fun k hk => absurd (show (k : Int) < 0 from hk) (by omega)⟩ ⟨rfl, TB.nil (fun k hk => h k hk)⟩ hm1 (fun k h1 h2 => absurd h2 (by omega))
      · show ((czf (m1.1 210) 8192 : Nat) : Int) ≤ 0
        rw [czf_zero 8192 h]
        decide
      · show (m1.1 210 k).toInt ≤ 0
        rw [h k hk]
        decide
    | succ n ih =>
      intro x m1 hx w1 f1 h hm1
      refine g_X12_clearStates_2 ⟨fun c => absurd ((le_l 8192 8192 rfl (by omega) (by omega)).mp c) (by omega), fun _ => ⟨nat_in (by omega) (by decide), ?_⟩⟩
      rw [nI_1]
      refine ih (x + 1) _ (by omega) (w1.t rfl (by decide) (by decide)) (f1.i rfl) (fun k hk => ?_) hm1
      show (if 210 = 210 ∧ k = (nI x).toNatClampNeg then (0 : Int32) else m1.1 210 k) = 0
      rw [nI_clamp (by omega)]
      by_cases hkx : k = x
      · rw [if_pos ⟨rfl, hkx⟩]
      · rw [if_neg (fun q => hkx q.2)]
        exact h k (by omega)
  exact v_X12_clearStates (L1 8192 0 m rfl w0 Fx.rf (fun k hk => absurd hk (by omega)) hm)
theorem MTi.n (h : MTi v g S m0 m) : MN v g m0 m := ⟨h.1, h.2.1, h.2.2.2.2.1, h.2.2.2.2.2.1⟩
theorem MTi.e8 (h : MTi v g S m0 m) : nE v ≤ 8 := h.2.2.2.2.2.1.2.2.1
/-! no room left: all loops to their ends -/
theorem mf_154 (h : MN v g m0 m) (hT : T = none) : AW ad E0 μX12_findStates (d + 177) (MSq v g T m0) 154 [(0, .ref (ad 187)), (2, .int 0)] [] m := by
  obtain ⟨w1, f1, hq, e1⟩ := h
  refine g_X12_findStates_154 (d := d + 176) ((bringH (x := 0) (na := 57) rfl (by decide) (by decide) w1 hq (by decide)).to ?_)
  rintro _ m2 ⟨rfl, w2, f2, H2⟩
  exact ⟨rfl, Or.inl rfl, w2, f1.tr f2 (RS_sub rfl), H2, hq.fx f2 (fun _ => rfl) rfl, e1.fx f2 rfl, Or.inr ⟨hT, rfl⟩⟩
theorem mf_18 {x3 : Int32} (h : MN v g m0 m) (hT : T = none) : AW ad E0 μX12_findStates (d + 177) (MSq v g T m0) 18 [(0, .ref (ad 187)), (1, .int x1), (2, .int 0), (3, .int x3)] [] m := g_X12_findStates_18 (d := d + 176) ⟨fun _ => mf_154 h hT, fun _ => ⟨fun _ => mf_154 h hT, fun c => absurd rfl c⟩⟩
theorem mf_46 {x3 : Int32} (h : MN v g m0 m) (hT : T = none) : ∀ n w, w + n = 3 → AW ad E0 μX12_findStates (d + 177) (MSq v g T m0) 46 [(0, .ref (ad 187)), (1, .int x1), (2, .int 0), (3, .int x3), (4, .int (nI w))] [] m := by
  have n8 := h.2.2.2.2.2.1
  have e1 := h.2.2.2.1
  intro n
  induction n with
  | zero =>
    intro w hw
    obtain rfl : w = 3 := hw
    exact g_X12_findStates_46 (d := d + 176) ⟨fun _ => mf_18 h hT, fun c => absurd (by decide) c⟩
  | succ n ih =>
    intro w hw
    have L : ∀ j a, a + j = nE v → AW ad E0 μX12_findStates (d + 177) (MSq v g T m0) 55 [(0, .ref (ad 187)), (1, .int x1), (2, .int 0), (3, .int x3), (4, .int (nI w)), (5, .int (nI a))] [] m := by
      intro j
      induction j with
      | zero =>
        intro a ha
        obtain rfl : a = nE v := ha
        refine g_X12_findStates_55 (d := d + 176) ⟨fun _ => ?_, fun c => absurd (by rw [e1]; exact (nI_leI (by omega) (by omega)).mpr (Nat.le_refl _)) c⟩
        rw [nI_1]
        exact ih (w + 1) (by omega)
      | succ j ihj =>
        intro a ha
        refine g_X12_findStates_55 (d := d + 176) ⟨fun c => absurd (by rw [e1] at c; exact (nI_leI (by omega) (by omega)).mp c) (by omega), fun _ => ?_⟩
        refine g_X12_findStates_70 (d := d + 176) ⟨fun _ => ?_, fun _ => ⟨fun _ => ?_, fun c => absurd rfl c⟩⟩
        · rw [nI_1]
          exact ihj (a + 1) (by omega)
        · rw [nI_1]
          exact ihj (a + 1) (by omega)
    exact g_X12_findStates_46 (d := d + 176) ⟨fun c => absurd ((le_l 3 3 rfl (by decide) (by omega)).mp c) (by omega), fun _ => L (nE v) 0 (by omega)⟩
theorem mf_55 {x3 : Int32} (h : MN v g m0 m) (hT : T = none) {w : Nat} (hw : w ≤ 2) : ∀ j a, a + j = nE v → AW ad E0 μX12_findStates (d + 177) (MSq v g T m0) 55 [(0, .ref (ad 187)), (1, .int x1), (2, .int 0), (3, .int x3), (4, .int (nI w)), (5, .int (nI a))] [] m := by
  have n8 := h.2.2.2.2.2.1
  have e1 := h.2.2.2.1
  intro j
  induction j with
  | zero =>
    intro a ha
    obtain rfl : a = nE v := ha
    refine g_X12_findStates_55 (d := d + 176) ⟨fun _ => ?_, fun c => absurd (by rw [e1]; exact (nI_leI (by omega) (by omega)).mpr (Nat.le_refl _)) c⟩
    rw [nI_1]
    exact mf_46 (d := d) h hT (3 - (w + 1)) (w + 1) (by omega)
  | succ j ihj =>
    intro a ha
    refine g_X12_findStates_55 (d := d + 176) ⟨fun c => absurd (by rw [e1] at c; exact (nI_leI (by omega) (by omega)).mp c) (by omega), fun _ => ?_⟩
    refine g_X12_findStates_70 (d := d + 176) ⟨fun _ => ?_, fun _ => ⟨fun _ => ?_, fun c => absurd rfl c⟩⟩
    · rw [nI_1]
      exact ihj (a + 1) (by omega)
    · rw [nI_1]
      exact ihj (a + 1) (by omega)
theorem mf_70 {x3 x6 : Int32} (h : MN v g m0 m) (hT : T = none) {w a : Nat} (hw : w ≤ 2) (ha : a < nE v) : AW ad E0 μX12_findStates (d + 177) (MSq v g T m0) 70 [(0, .ref (ad 187)), (1, .int x1), (2, .int 0), (3, .int x3), (4, .int (nI w)), (5, .int (nI a)), (6, .int x6)] [] m := by
  refine g_X12_findStates_70 (d := d + 176) ⟨fun _ => ?_, fun _ => ⟨fun _ => ?_, fun c => absurd rfl c⟩⟩
  · rw [nI_1]
    exact mf_55 (d := d) h hT hw (nE v - (a + 1)) (a + 1) (by omega)
  · rw [nI_1]
    exact mf_55 (d := d) h hT hw (nE v - (a + 1)) (a + 1) (by omega)
/-! the games of a state -/
theorem mx_70 {R : SSt → Option SSt} (hw : w ≤ 2) (ha : a < nE v)
    (K : ∀ S1 m1, MTi v g S1 m0 m1 → t < nS S1 → R S1 = T → AW ad E0 μX12_findStates (d + 177) (MSq v g T m0) 55 [(0, .ref (ad 187)), (1, .int x1), (2, .int 1), (3, .int (nI t)), (4, .int (nI w)), (5, .int (nI (a + 1)))] [] m1) :
    ∀ (k b : Nat) (S : SSt) (m1 : Wm), a < b → b + k = nE v → (xB v g.2 t w a k b S).bind R = T → MTi v g S m0 m1 → t < nS S → AW ad E0 μX12_findStates (d + 177) (MSq v g T m0) 70 [(0, .ref (ad 187)), (1, .int x1), (2, .int 1), (3, .int (nI t)), (4, .int (nI w)), (5, .int (nI a)), (6, .int (nI b))] [] m1 := by
  intro k
  induction k with
  | zero =>
    intro b S m1 hab hk hT h ht
    obtain rfl : b = nE v := hk
    have n8 := h.e8
    have e1 := h.2.2.2.2.2.1.1
    refine g_X12_findStates_70 (d := d + 176) ⟨fun _ => ?_, fun c => absurd (by rw [e1]; exact (nI_leI (by omega) (by omega)).mpr (Nat.le_refl _)) c⟩
    rw [nI_1]
    exact K S m1 h ht hT
  | succ k ih =>
    intro b S m1 hab hk hT h ht
    have n8 := h.e8
    obtain ⟨w1, f1, s1, sm, hl, em, ⟨f0, hx⟩, zi⟩ := h
    have e1 := em.1
    have hN := sm.n
    have hT' : ((xS v g.2 t w a b S).bind (xB v g.2 t w a k (b + 1))).bind R = T := hT
    refine g_X12_findStates_70 (d := d + 176) ⟨fun c => absurd (by rw [e1] at c; exact (nI_leI (by omega) (by omega)).mp c) (by omega), fun _ => ⟨fun c => absurd c (by decide), fun _ => ?_⟩⟩
    obtain ⟨a1, a2, a3⟩ := sm.2.1 t ht
    refine (loadM (d := d + 176) w1 a1 a2 a3 (by omega)).to ?_
    rintro _ m2 ⟨rfl, w2, f2, o2, c2⟩
    have hx2 : HX (nE v) m2 (kS S t, g.2) := ⟨c2, fun k hk => (o2 190 k (by decide)).trans (hx.2.1 k hk), fun k hk => (o2 191 k (by decide)).trans (hx.2.2.1 k hk), fun k hk => (o2 192 k (by decide)).trans (hx.2.2.2.1 k hk), (o2 187 8 (by decide)).trans hx.2.2.2.2⟩
    have hl2 := hl.fx f2 (fun _ => rfl) rfl
    have em2 := em.fx f2 rfl
    have tw : nI w = 0 ∨ nI w = 1 ∨ nI w = 2 ∨ nI w = 3 := th_of hw
    refine ⟨rfl, (goQuietX (d := d + 6) (g0 := g) w2 hx2 em2 hl2 rfl (a := a) (e := b) (by omega) (by omega) (by omega) tw).to ?_⟩
    rintro _ m3 ⟨rfl, w3, f3, hx3⟩
    have zb : ZB v (qtG v a b (nI w) (kS S t, g.2)) := (zi t ht g.2).qt (by omega) (by omega) em.2.2.2.1
    have G2 : (qtG v a b (nI w) (kS S t, g.2)).2 = g.2 := stl_f2
    have sm3 := (sm.fx f2 rfl).fx f3 rfl
    have s3 := (s1.fx f2 rfl).fx f3 rfl
    have hl3 := hl2.fx f3 (fun _ => rfl) rfl
    have em3 := em2.fx f3 rfl
    have F3 : Fx (RS [22, 24, 28, 34, 35, 49]) m0 m3 := (f1.tr f2 (RS_sub rfl)).tr f3 (RS_sub rfl)
    have hx3' : HX (nE v) m3 ((qtG v a b (nI w) (kS S t, g.2)).1, g.2) := by
      obtain ⟨y1, y2⟩ := hx3
      rw [G2] at y2
      exact ⟨y1, y2⟩
    refine ⟨rfl, (stateNowS (d := d + 175) (q := dS S t + 1) w3 s3 sm3 hx3.1 zb.1.2 (Or.inr ⟨t, ht, rfl, rfl⟩)).to ?_⟩
    rintro r m4 ⟨w4, f4, s4, q⟩
    have F4 := F3.tr f4 (RS_sub (l2 := [22, 24, 28, 34, 35, 49]) rfl)
    have hl4 := hl3.fx f4 (fun _ => rfl) rfl
    have em4 := em3.fx f4 rfl
    have hx4 := hx3'.fx f4 rfl rfl
    have hxs : xS v g.2 t w a b S = insS (qtG v a b (nI w) (kS S t, g.2)).1 (dS S t + 1) S := rfl
    have nn : ∀ i, i ≤ 3000 → ¬ nI i = (-1 : Int32) := fun i hi q => by
      have := congrArg Int32.toInt q
      rw [nI_toInt (by omega)] at this
      have z1 : (-1 : Int32).toInt = -1 := rfl
      omega
    rcases q with ⟨i, hi, ei, rfl, sm4⟩ | ⟨ni, n3, rfl, sm4⟩ | ⟨ni, n3, rfl, sm4⟩
    · rw [hxs, insS_in ⟨i, hi, ei⟩] at hT'
      refine ⟨_, rfl, fun c => absurd c (nn i (by omega)), fun _ => ?_⟩
      rw [nI_1]
      exact ih (b + 1) S m4 (by omega) (by omega) hT' ⟨w4, F4, s4, sm4, hl4, em4, ⟨_, hx4⟩, zi⟩ ht
    · rw [hxs, insS_no ni n3] at hT'
      exact ⟨_, rfl, fun _ => mf_70 (d := d) ⟨w4, F4, hl4, em4⟩ hT'.symm hw ha, fun c => absurd rfl c⟩
    · have e := insS_new (q := dS S t + 1) ni n3
      rw [hxs, e] at hT'
      refine ⟨_, rfl, fun c => absurd c (nn _ (by omega)), fun _ => ?_⟩
      rw [nI_1]
      exact ih (b + 1) _ m4 (by omega) (by omega) hT' ⟨w4, F4, s4, sm4, hl4, em4, ⟨_, hx4⟩, zi.ins (fun p' => zb.of rfl) e⟩ (by rw [adS_n]; omega)
theorem mx_55 {R : SSt → Option SSt} (hw : w ≤ 2)
    (K : ∀ S1 m1, MTi v g S1 m0 m1 → t < nS S1 → R S1 = T → AW ad E0 μX12_findStates (d + 177) (MSq v g T m0) 46 [(0, .ref (ad 187)), (1, .int x1), (2, .int 1), (3, .int (nI t)), (4, .int (nI (w + 1)))] [] m1) :
    ∀ (k a : Nat) (S : SSt) (m1 : Wm), a + k = nE v → (xA v g.2 t w (nE v) k a S).bind R = T → MTi v g S m0 m1 → t < nS S → AW ad E0 μX12_findStates (d + 177) (MSq v g T m0) 55 [(0, .ref (ad 187)), (1, .int x1), (2, .int 1), (3, .int (nI t)), (4, .int (nI w)), (5, .int (nI a))] [] m1 := by
  intro k
  induction k with
  | zero =>
    intro a S m1 hk hT h ht
    obtain rfl : a = nE v := hk
    have n8 := h.e8
    have e1 := h.2.2.2.2.2.1.1
    refine g_X12_findStates_55 (d := d + 176) ⟨fun _ => ?_, fun c => absurd (by rw [e1]; exact (nI_leI (by omega) (by omega)).mpr (Nat.le_refl _)) c⟩
    rw [nI_1]
    exact K S m1 h ht hT
  | succ k ih =>
    intro a S m1 hk hT h ht
    have n8 := h.e8
    have e1 := h.2.2.2.2.2.1.1
    have hT' : ((xB v g.2 t w a (nE v - (a + 1)) (a + 1) S).bind (xA v g.2 t w (nE v) k (a + 1))).bind R = T := hT
    rw [Option.bind_assoc] at hT'
    refine g_X12_findStates_55 (d := d + 176) ⟨fun c => absurd (by rw [e1] at c; exact (nI_leI (by omega) (by omega)).mp c) (by omega), fun _ => ?_⟩
    rw [nI_1]
    exact mx_70 (d := d) hw (by omega) (fun S1 m2 h2 ht2 hR => ih (a + 1) S1 m2 (by omega) hR h2 ht2) (nE v - (a + 1)) (a + 1) S m1 (by omega) (by omega) hT' h ht
theorem mx_46 {R : SSt → Option SSt} (K : ∀ S1 m1, MTi v g S1 m0 m1 → t < nS S1 → R S1 = T → AW ad E0 μX12_findStates (d + 177) (MSq v g T m0) 18 [(0, .ref (ad 187)), (1, .int x1), (2, .int 1), (3, .int (nI (t + 1)))] [] m1) :
    ∀ (k w : Nat) (S : SSt) (m1 : Wm), w + k = 3 → (xW v g.2 t (nE v) k w S).bind R = T → MTi v g S m0 m1 → t < nS S → AW ad E0 μX12_findStates (d + 177) (MSq v g T m0) 46 [(0, .ref (ad 187)), (1, .int x1), (2, .int 1), (3, .int (nI t)), (4, .int (nI w))] [] m1 := by
  intro k
  induction k with
  | zero =>
    intro w S m1 hk hT h ht
    obtain rfl : w = 3 := hk
    refine g_X12_findStates_46 (d := d + 176) ⟨fun _ => ?_, fun c => absurd (by decide) c⟩
    rw [nI_1]
    exact K S m1 h ht hT
  | succ k ih =>
    intro w S m1 hk hT h ht
    have hT' : ((xA v g.2 t w (nE v) (nE v) 0 S).bind (xW v g.2 t (nE v) k (w + 1))).bind R = T := hT
    rw [Option.bind_assoc] at hT'
    exact g_X12_findStates_46 (d := d + 176) ⟨fun c => absurd ((le_l 3 3 rfl (by decide) (by omega)).mp c) (by omega), fun _ => mx_55 (d := d) (by omega) (fun S1 m2 h2 ht2 hR => ih (w + 1) S1 m2 (by omega) hR h2 ht2) (nE v) 0 S m1 (by omega) hT' h ht⟩
theorem mx_18 {wi : Nat} (hwi : wi ≤ 3000) : ∀ (k t : Nat) (S : SSt) (m1 : Wm), t + k = 3000 → xM v g.2 wi k t S = T → MTi v g S m0 m1 → AW ad E0 μX12_findStates (d + 177) (MSq v g T m0) 18 [(0, .ref (ad 187)), (1, .int (nI wi)), (2, .int 1), (3, .int (nI t))] [] m1 := by
  have fin : ∀ (S : SSt) (m1 : Wm), T = some S → MTi v g S m0 m1 → AW ad E0 μX12_findStates (d + 177) (MSq v g T m0) 154 [(0, .ref (ad 187)), (2, .int 1)] [] m1 := by
    intro S m1 hT h
    obtain ⟨w1, f1, s1, sm, hl, em, hx, zi⟩ := h
    refine g_X12_findStates_154 (d := d + 176) ((bringH (x := 0) (na := 57) rfl (by decide) (by decide) w1 hl (by decide)).to ?_)
    rintro _ m2 ⟨rfl, w2, f2, H2⟩
    exact ⟨rfl, Or.inr rfl, w2, f1.tr f2 (RS_sub rfl), H2, hl.fx f2 (fun _ => rfl) rfl, em.fx f2 rfl, Or.inl ⟨S, hT, rfl, sm.fx f2 rfl, s1.fx f2 rfl, zi⟩⟩
  intro k
  induction k with
  | zero =>
    intro t S m1 hk hT h
    obtain rfl : t = 3000 := hk
    have hN := h.2.2.2.1.n
    have c4 := h.2.2.2.1.c43
    exact g_X12_findStates_18 (d := d + 176) ⟨fun _ => fin S m1 hT.symm h, fun c => absurd (by rw [c4]; exact (l_le 3000 3000 rfl (by decide) (by omega)).mpr hN) c⟩
  | succ k ih =>
    intro t S m1 hk hT h
    have hN := h.2.2.2.1.n
    have c4 := h.2.2.2.1.c43
    have hT' : (if nS S ≤ t then some S else if dS S t = wi then xM v g.2 wi k (t + 1) S else (xW v g.2 t (nE v) 3 0 S).bind (xM v g.2 wi k (t + 1))) = T := hT
    refine g_X12_findStates_18 (d := d + 176) ⟨fun c => ?_, fun c => ⟨fun c2 => absurd c2 (by decide), fun _ => ?_⟩⟩
    · rw [c4] at c
      rw [if_pos ((nI_leI (by omega) (by omega)).mp c)] at hT'
      exact fin S m1 hT'.symm h
    · rw [c4] at c
      have ht : t < nS S := Nat.lt_of_not_le (fun z => c ((nI_leI (by omega) (by omega)).mpr z))
      obtain ⟨e7, dl⟩ := h.2.2.2.1.2.2 t ht
      rw [if_neg (by omega)] at hT'
      rw [nI_clamp (by omega), e7]
      refine ⟨nat_in (by omega) (by decide), fun c2 => ?_, fun c2 => ?_⟩
      · have hd : ¬ dS S t = wi := fun z => c2 (by rw [z])
        rw [if_neg hd] at hT'
        exact mx_46 (d := d) (fun S1 m2 h2 ht2 hR => ih (t + 1) S1 m2 (by omega) hR h2) 3 0 S m1 rfl hT' h ht
      · have hd := (nI_eq (a := dS S t) (b := wi) (by omega) (by omega)).mp c2
        rw [if_pos hd] at hT'
        rw [nI_1]
        exact ih (t + 1) S m1 (by omega) hT' h
theorem findStatesX (w0 : WT m) (hm : HM (nE v) m g) (hE : EM m v) (hz : ZB v g) {wi : Nat} (hwi : wi ≤ 3000) : Ct ad μX12_findStates (d + 177) [.ref (ad 187), .int (nI wi)] m (MSq v g (srG v g wi) m) := by
  refine v_X12_findStates (d := d + 176) ((clearX (d := d + 175) w0 hm hE hz.1.1).to ?_)
  rintro _ m1 ⟨rfl, w1, f1, s1, t1, hx1, hl1⟩
  have em1 := hE.fx f1 rfl
  have sm1 : SM m1 (0, (fun _ => g.1), fun _ => 0) := ⟨t1, fun i hi => absurd hi (Nat.not_lt_zero i), fun i hi => absurd hi (Nat.not_lt_zero i)⟩
  refine ⟨rfl, (stateNowS (d := d + 175) (q := 0) w1 s1 sm1 hx1.1 hz.1.2 (Or.inl ⟨rfl, rfl⟩)).to ?_⟩
  rintro r m2 ⟨w2, f2, s2, q⟩
  rcases q with ⟨i, hi, -⟩ | ⟨-, q, -⟩ | ⟨-, -, rfl, sm2⟩
  · exact absurd hi (Nat.not_lt_zero i)
  · exact absurd (show (0 : Nat) < 3000 by decide) q
  rw [s0S_e] at sm2
  refine ⟨_, rfl, ?_⟩
  rw [srG_M]
  refine mx_18 (d := d) hwi 3000 0 (s0S g.1) m2 rfl rfl ⟨w2, ((Fx.rf (S := RS [22, 24, 28, 34, 35, 49])).tr f1 (RS_sub rfl)).tr f2 (RS_sub rfl), s2, sm2, hl1.fx f2 (fun _ => rfl) rfl, em1.fx f2 rfl, ⟨g.1, hx1.fx f2 rfl rfl⟩, fun i hi p => hz.of rfl⟩
end SMS
