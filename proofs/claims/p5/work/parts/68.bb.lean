/-! WHAT A SIDE CAN DO: the class's value of the code -/
section VAL
variable {ad : Nat → Nat} {d b ρ s ar P : Nat} {m m0 : Wm} {g : GS} {cl : List Int32} {v : Int32}
theorem CodeX.fx {S : List Nat} {m' : Wm} (hP : P = 5 ∨ P = 10) (h : CodeX P cl m) (f : Fx (RS S) m m') (e : S.elem 1 = false) : CodeX P cl m' := by
  have r : ∀ j k, j = 0 ∨ j = 1 → m'.1 (P + j) k = m.1 (P + j) k := fun j k hj => f.at (nRS e (rg_1 hP hj))
  exact ⟨(r 0 4 (Or.inl rfl)).trans h.1, h.2.1.k (fun k => r 1 k (Or.inr rfl)), h.2.2⟩
theorem rg_14 {k : Nat} (hP : P = 5 ∨ P = 10) : rg (P + 2) k = 14 := by rcases hP with rfl | rfl <;> rfl
theorem wV (hP : P = 5 ∨ P = 10) (w : WT m) {k : Nat} {x : Int32} : WT (uI m (P + 2) k x) := by rcases hP with rfl | rfl; exact w.n rfl; exact w.n rfl
theorem fV (hP : P = 5 ∨ P = 10) (f : Fx (RS [14]) m0 m) {k : Nat} {x : Int32} : Fx (RS [14]) m0 (uI m (P + 2) k x) := f.i (by unfold RS; rw [rg_14 hP]; rfl)
set_option maxHeartbeats 1000000 in
theorem e_value (hb : SS b ρ) (hρ : ([14] : List Nat).elem ρ = false) (hP : P = 5 ∨ P = 10) (w : WT m) (h : HC b m g) (hs : s < 8) (ha : ar ≤ 4) (hX : CodeX P cl m)
    (hv : cl ≠ [] → evR (ltF g.1 g.2.1 g.2.2.1 ar s) cl [] = some [v]) : Ct ad μX5_value (d + 3) [.ref (ad P), .ref (ad b), .int (nI s), .int (nI ar)] m (fun r m' => WT m' ∧ Fx (RS [14]) m m' ∧ r = some (.int (if cl = [] then smF g.1 (4 * s) ar else clM v))) := by
  obtain ⟨x1, x2, x3⟩ := hX
  refine v_X5_value (Ru_of hP) hb.1 ⟨fun c => ?_, fun c => ?_⟩
  · have hn : cl ≠ [] := fun q => c (by rw [x1, q]; rfl)
    have hv1 := hv hn
    rw [if_neg hn]
    have L : ∀ (n i : Nat) (σ : List Int32) (m1 : Wm), i + n = cl.length → WT m1 → Fx (RS [14]) m m1 → evR (ltF g.1 g.2.1 g.2.2.1 ar s) (cl.drop n) [] = some σ → LCel m1 (P + 2) σ → σ.length ≤ i →
        AW ad E0 μX5_value (d + 2 + 1) (fun r m' => WT m' ∧ Fx (RS [14]) m m' ∧ r = some (.int (clM v))) 20 [(0, .ref (ad P)), (1, .ref (ad b)), (2, .int (nI s)), (3, .int (nI ar)), (4, .int (nI σ.length)), (5, .int (nI i))] [] m1 := by
      intro n
      induction n with
      | zero =>
        intro i σ m1 hi w1 f1 hσ hL hl
        have k4 : m1.1 P 4 = nI cl.length := (f1.at (nRS (ρ := 1) rfl (rg_1 (j := 0) hP (Or.inl rfl)))).trans x1
        have e1 : σ = [v] := by
          have : evR (ltF g.1 g.2.1 g.2.2.1 ar s) (cl.drop 0) [] = some [v] := hv1
          rw [this] at hσ
          exact (Option.some.inj hσ).symm
        subst e1
        have ev0 : m1.1 (P + 2) 0 = v := hL 0 (Nat.lt_succ_self 0)
        refine g_X5_value_20 (Ru_of hP) hb.1 ⟨fun _ => ?_, fun c => absurd (by rw [k4]; exact (nI_leI (by omega) (by omega)).mpr (by omega)) c⟩
        have e00 : (0 : Int32).toNatClampNeg = 0 := rfl
        rw [e00, ev0]
        refine (clampC (by decide)).to ?_
        rintro _ m2 ⟨eq, rfl⟩
        obtain rfl := eq.symm
        exact ⟨_, rfl, w1, f1, rfl⟩
      | succ n ih =>
        intro i σ m1 hi w1 f1 hσ hL hl
        have k4 : m1.1 P 4 = nI cl.length := (f1.at (nRS (ρ := 1) rfl (rg_1 (j := 0) hP (Or.inl rfl)))).trans x1
        have H1 : HC b m1 g := h.fx hb f1 hρ
        have ex : m1.1 (P + 1) i = cAt cl n := ((f1.at (nRS (ρ := 1) rfl (rg_1 (j := 1) hP (Or.inr rfl)))).trans (x2 i (by omega))).trans (by rw [show cl.length - 1 - i = n by omega])
        have ed := drop_c cl n (by omega)
        obtain ⟨υ, hυ⟩ := ev_suf cl [] [v] hv1 n
        rw [ed, evR_c hσ] at hυ
        have hυ2 : evR (ltF g.1 g.2.1 g.2.2.1 ar s) (cl.drop n) [] = some υ := by rw [ed, evR_c hσ]; exact hυ
        generalize cAt cl n = x at ex hυ
        have hs40 : σ.length < 40 := by omega
        have psh : ∀ y, υ = y :: σ → AW ad E0 μX5_value (d + 2 + 1) (fun r m' => WT m' ∧ Fx (RS [14]) m m' ∧ r = some (.int (clM v))) 20 [(0, .ref (ad P)), (1, .ref (ad b)), (2, .int (nI s)), (3, .int (nI ar)), (4, .int (nI σ.length + (1 : Int32))), (5, .int (nI i + (1 : Int32)))] [] (uI m1 (P + 2) (nI σ.length).toNatClampNeg y) := fun y hy => by
          subst hy
          rw [nI_clamp (by omega), nI_1, nI_1]
          exact ih (i + 1) (y :: σ) _ (by omega) (wV hP w1) (fV hP f1) hυ2 hL.c (by rw [List.length_cons]; omega)
        refine g_X5_value_20 (Ru_of hP) hb.1 ⟨fun c => absurd (by rw [k4] at c; exact (nI_leI (by omega) (by omega)).mp c) (by omega), fun _ => ?_⟩
        rw [nI_clamp (by omega), ex]
        refine ⟨nat_in (by omega) (by decide), fun c => (e_rank).to ?_, fun c => ?_⟩
        · rintro _ m2 ⟨eq, rfl⟩
          obtain rfl := eq.symm
          refine ⟨_, rfl, ?_⟩
          have n1 : ¬ x < 1000 := fun q => by have := z_le c; have := z_lt q; omega
          have rk := rk_4 (c := x - 1000)
          unfold evS at hυ
          rw [if_neg n1] at hυ
          refine g_X5_value_59 (Ru_of hP) hb.1 ⟨fun q => ?_, fun q => ⟨fun q2 => absurd ((le_l 40 40 rfl (by decide) (by omega)).mp q2) (by omega), fun _ => ⟨fun _ => ?_, fun q2 => absurd c q2⟩⟩⟩
          · have r0 : ¬ rkN (x - 1000) = 0 := fun z => q (by rw [z]; rfl)
            rw [if_neg r0] at hυ
            refine g_X5_value_111 (Ru_of hP) hb.1 ⟨fun q4 => ?_, fun q4 => ?_⟩
            · have r4 : ¬ rkN (x - 1000) = 4 := fun z => q4 (by rw [z]; rfl)
              rw [if_neg r4] at hυ
              obtain ⟨y, z, r, rfl, hυr⟩ : ∃ y z r, σ = y :: z :: r ∧ υ = jnF (x - 1000) z y :: r := by
                cases σ with
                | nil => cases hυ
                | cons y σ =>
                  cases σ with
                  | nil => cases hυ
                  | cons z r => exact ⟨y, z, r, rfl, (Option.some.inj hυ).symm⟩
              rw [List.length_cons, List.length_cons] at hs40 hl
              have el : nI (y :: z :: r).length = nI (r.length + 2) := by rw [List.length_cons, List.length_cons]
              have ea : nI (r.length + 2) + (-1 : Int32) = nI (r.length + 1) := by
                have := nI_sb (a := r.length + 2) (b := 1) (by omega) (by omega)
                rw [Int32.sub_eq_add_neg] at this
                exact this
              have eb : nI (r.length + 1) - (1 : Int32) = nI r.length := nI_sb (a := r.length + 1) (b := 1) (by omega) (by omega)
              rw [el]
              refine g_X5_value_144 (Ru_of hP) hb.1 ⟨fun q2 => absurd ((l_le 1 1 rfl (by decide) (by omega)).mp q2) (by omega), fun _ => ?_⟩
              have hz : m1.1 (P + 2) r.length = z := hL.t.h
              have hy : m1.1 (P + 2) (r.length + 1) = y := hL.h
              rw [ea, eb, nI_clamp (by omega), nI_clamp (by omega), hz, hy]
              refine ⟨nat_in (by omega) (by decide), nat_in (by omega) (by decide), (joinC).to ?_⟩
              rintro _ m2 ⟨eq, rfl⟩
              obtain rfl := eq.symm
              subst hυr
              refine ⟨_, rfl, nat_in (by omega) (by decide), ?_⟩
              rw [nI_1]
              have := ih (i + 1) (jnF (x - 1000) z y :: r) (uI m1 (P + 2) r.length (jnF (x - 1000) z y)) (by omega) (wV hP w1) (fV hP f1) hυ2 (hL.t.t.c) (by rw [List.length_cons]; omega)
              rw [List.length_cons] at this
              exact this
            · have r4 : rkN (x - 1000) = 4 := (nI_eq (a := rkN (x - 1000)) (b := 4) (by omega) (by omega)).mp q4
              rw [if_pos r4] at hυ
              obtain ⟨y, r, rfl, hυr⟩ : ∃ y r, σ = y :: r ∧ υ = (-y) :: r := by
                cases σ with
                | nil => cases hυ
                | cons y r => exact ⟨y, r, rfl, (Option.some.inj hυ).symm⟩
              rw [List.length_cons] at hs40 hl
              have el : nI (y :: r).length = nI (r.length + 1) := by rw [List.length_cons]
              have eb : nI (r.length + 1) - (1 : Int32) = nI r.length := nI_sb (a := r.length + 1) (b := 1) (by omega) (by omega)
              rw [el]
              refine ⟨fun q2 => absurd ((l_le 0 0 rfl (by decide) (by omega)).mp q2) (by omega), fun _ => ?_⟩
              have hy : m1.1 (P + 2) r.length = y := hL.h
              rw [eb, nI_clamp (by omega), hy, nI_1]
              subst hυr
              refine ⟨nat_in (by omega) (by decide), nat_in (by omega) (by decide), ?_⟩
              have := ih (i + 1) ((-y) :: r) (uI m1 (P + 2) r.length (-y)) (by omega) (wV hP w1) (fV hP f1) hυ2 (hL.t.c) (by rw [List.length_cons]; omega)
              rw [List.length_cons] at this
              exact this
          · have r0 : rkN (x - 1000) = 0 := (nI_eq (a := rkN (x - 1000)) (b := 0) (by omega) (by omega)).mp q
            rw [if_pos r0] at hυ
            by_cases hl2 : isLt (x - 1000)
            · rw [if_pos hl2] at hυ
              refine (thingC (d := d) hb H1 hs ha hl2).to ?_
              rintro _ m2 ⟨eq, rfl⟩
              obtain rfl := eq.symm
              exact ⟨_, rfl, nat_in hs40 (by decide), psh _ (Option.some.inj hυ).symm⟩
            · rw [if_neg hl2] at hυ
              cases hυ
        · have n1 : x < 1000 := (fa_lt _ _).mpr (z_nle c)
          unfold evS at hυ
          rw [if_pos n1] at hυ
          exact g_X5_value_59 (Ru_of hP) hb.1 ⟨fun q => absurd rfl q, fun _ => ⟨fun q2 => absurd ((le_l 40 40 rfl (by decide) (by omega)).mp q2) (by omega), fun _ => ⟨fun q2 => absurd q2 c, fun _ => ⟨nat_in hs40 (by decide), psh _ (Option.some.inj hυ).symm⟩⟩⟩⟩
    exact L cl.length 0 [] m (by omega) w Fx.rf (by rw [List.drop_length]; rfl) (fun i hi => absurd hi (Nat.not_lt_zero i)) (Nat.le_refl _)
  · have hn : cl = [] := by
      rw [x1] at c
      exact List.eq_nil_of_length_eq_zero ((nI_eq (a := cl.length) (b := 0) (by omega) (by decide)).mp c)
    rw [if_pos hn]
    refine (sumC hb h hs ha).to ?_
    rintro _ m1 ⟨eq, rfl⟩
    obtain rfl := eq.symm
    exact ⟨_, rfl, w, Fx.rf, rfl⟩
end VAL
