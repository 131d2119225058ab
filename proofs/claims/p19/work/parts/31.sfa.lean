/-! SAFETY OF THE CLASS, BY PROGRAM (X1_allows .. X2_takeBack) -/
set_option maxHeartbeats 4000000 in
theorem s_X1_allows {ad : Nat → Nat} {d : Nat} {m : Wm} {x0 x1 : Int32} (w : WT m) : Ct ad μX1_allows d [.int x0, .int x1] m (fun r m' => WT m' ∧ Fx (RS []) m m' ∧ ∃ v : Int32, r = some (.int v) ∧ (0 : Int) ≤ v.toInt ∧ v.toInt ≤ 1 ∧ (v.toInt = 0 ∨ (0 ≤ x0.toInt ∧ x0.toInt ≤ 4))) := by
  have f : Fx (RS []) m m := Fx.rf
  refine v_X1_allows  ?_
  refine ⟨?_, ?_, ?_, ?_, ?_, ?_⟩
  · intro c1
    have k2 := y_eqr (n := 0) rfl c1
    refine ⟨?_, ?_⟩
    · intro c3
      have k4 := y_ltr (n := 0) rfl c3
      exact ⟨w, f, _, rfl, (by show (0 : Int) ≤ (0 : Int); omega), (by show (0 : Int) ≤ (1 : Int); omega), (by show (0 : Int) = 0 ∨ (0 ≤ x0.toInt ∧ x0.toInt ≤ 4); omega)⟩
    · intro c5
      have k6 := y_nltr (n := 0) rfl c5
      refine ⟨?_, ?_⟩
      · intro c7
        have k8 := y_ltl (n := 3) rfl c7
        exact ⟨w, f, _, rfl, (by show (0 : Int) ≤ (0 : Int); omega), (by show (0 : Int) ≤ (1 : Int); omega), (by show (0 : Int) = 0 ∨ (0 ≤ x0.toInt ∧ x0.toInt ≤ 4); omega)⟩
      · intro c9
        have k10 := y_nltl (n := 3) rfl c9
        exact ⟨w, f, _, rfl, (by show (0 : Int) ≤ (1 : Int); omega), (by show (1 : Int) ≤ (1 : Int); omega), (by show (1 : Int) = 0 ∨ (0 ≤ x0.toInt ∧ x0.toInt ≤ 4); omega)⟩
  · intro c11
    have k12 := y_eqr (n := 1) rfl c11
    refine ⟨?_, ?_⟩
    · intro c13
      have k14 := y_ltr (n := 1) rfl c13
      exact ⟨w, f, _, rfl, (by show (0 : Int) ≤ (0 : Int); omega), (by show (0 : Int) ≤ (1 : Int); omega), (by show (0 : Int) = 0 ∨ (0 ≤ x0.toInt ∧ x0.toInt ≤ 4); omega)⟩
    · intro c15
      have k16 := y_nltr (n := 1) rfl c15
      refine ⟨?_, ?_⟩
      · intro c17
        have k18 := y_ltl (n := 3) rfl c17
        exact ⟨w, f, _, rfl, (by show (0 : Int) ≤ (0 : Int); omega), (by show (0 : Int) ≤ (1 : Int); omega), (by show (0 : Int) = 0 ∨ (0 ≤ x0.toInt ∧ x0.toInt ≤ 4); omega)⟩
      · intro c19
        have k20 := y_nltl (n := 3) rfl c19
        exact ⟨w, f, _, rfl, (by show (0 : Int) ≤ (1 : Int); omega), (by show (1 : Int) ≤ (1 : Int); omega), (by show (1 : Int) = 0 ∨ (0 ≤ x0.toInt ∧ x0.toInt ≤ 4); omega)⟩
  · intro c21
    have k22 := y_eqr (n := 2) rfl c21
    refine ⟨?_, ?_⟩
    · intro c23
      have k24 := y_ltr (n := 0) rfl c23
      exact ⟨w, f, _, rfl, (by show (0 : Int) ≤ (0 : Int); omega), (by show (0 : Int) ≤ (1 : Int); omega), (by show (0 : Int) = 0 ∨ (0 ≤ x0.toInt ∧ x0.toInt ≤ 4); omega)⟩
    · intro c25
      have k26 := y_nltr (n := 0) rfl c25
      refine ⟨?_, ?_⟩
      · intro c27
        have k28 := y_ltl (n := 2) rfl c27
        exact ⟨w, f, _, rfl, (by show (0 : Int) ≤ (0 : Int); omega), (by show (0 : Int) ≤ (1 : Int); omega), (by show (0 : Int) = 0 ∨ (0 ≤ x0.toInt ∧ x0.toInt ≤ 4); omega)⟩
      · intro c29
        have k30 := y_nltl (n := 2) rfl c29
        exact ⟨w, f, _, rfl, (by show (0 : Int) ≤ (1 : Int); omega), (by show (1 : Int) ≤ (1 : Int); omega), (by show (1 : Int) = 0 ∨ (0 ≤ x0.toInt ∧ x0.toInt ≤ 4); omega)⟩
  · intro c31
    have k32 := y_eqr (n := 3) rfl c31
    refine ⟨?_, ?_⟩
    · intro c33
      have k34 := y_ltr (n := 0) rfl c33
      exact ⟨w, f, _, rfl, (by show (0 : Int) ≤ (0 : Int); omega), (by show (0 : Int) ≤ (1 : Int); omega), (by show (0 : Int) = 0 ∨ (0 ≤ x0.toInt ∧ x0.toInt ≤ 4); omega)⟩
    · intro c35
      have k36 := y_nltr (n := 0) rfl c35
      refine ⟨?_, ?_⟩
      · intro c37
        have k38 := y_ltl (n := 99) rfl c37
        exact ⟨w, f, _, rfl, (by show (0 : Int) ≤ (0 : Int); omega), (by show (0 : Int) ≤ (1 : Int); omega), (by show (0 : Int) = 0 ∨ (0 ≤ x0.toInt ∧ x0.toInt ≤ 4); omega)⟩
      · intro c39
        have k40 := y_nltl (n := 99) rfl c39
        exact ⟨w, f, _, rfl, (by show (0 : Int) ≤ (1 : Int); omega), (by show (1 : Int) ≤ (1 : Int); omega), (by show (1 : Int) = 0 ∨ (0 ≤ x0.toInt ∧ x0.toInt ≤ 4); omega)⟩
  · intro c41
    have k42 := y_eqr (n := 4) rfl c41
    refine ⟨?_, ?_⟩
    · intro c43
      have k44 := y_ltr (n := 0) rfl c43
      exact ⟨w, f, _, rfl, (by show (0 : Int) ≤ (0 : Int); omega), (by show (0 : Int) ≤ (1 : Int); omega), (by show (0 : Int) = 0 ∨ (0 ≤ x0.toInt ∧ x0.toInt ≤ 4); omega)⟩
    · intro c45
      have k46 := y_nltr (n := 0) rfl c45
      refine ⟨?_, ?_⟩
      · intro c47
        have k48 := y_ltl (n := 50) rfl c47
        exact ⟨w, f, _, rfl, (by show (0 : Int) ≤ (0 : Int); omega), (by show (0 : Int) ≤ (1 : Int); omega), (by show (0 : Int) = 0 ∨ (0 ≤ x0.toInt ∧ x0.toInt ≤ 4); omega)⟩
      · intro c49
        have k50 := y_nltl (n := 50) rfl c49
        exact ⟨w, f, _, rfl, (by show (0 : Int) ≤ (1 : Int); omega), (by show (1 : Int) ≤ (1 : Int); omega), (by show (1 : Int) = 0 ∨ (0 ≤ x0.toInt ∧ x0.toInt ≤ 4); omega)⟩
  · intro c51
    have k52 := y_ner (n := 0) rfl c51
    intro c53
    have k54 := y_ner (n := 1) rfl c53
    intro c55
    have k56 := y_ner (n := 2) rfl c55
    intro c57
    have k58 := y_ner (n := 3) rfl c57
    intro c59
    have k60 := y_ner (n := 4) rfl c59
    exact ⟨w, f, _, rfl, (by show (0 : Int) ≤ (0 : Int); omega), (by show (0 : Int) ≤ (1 : Int); omega), (by show (0 : Int) = 0 ∨ (0 ≤ x0.toInt ∧ x0.toInt ≤ 4); omega)⟩
set_option maxHeartbeats 4000000 in
theorem s_X1_has {ad : Nat → Nat} {d : Nat} {m : Wm} {x1 : Int32} (w : WT m) : Ct ad μX1_has d [.ref (ad 3), .int x1] m (fun r m' => WT m' ∧ Fx (RS []) m m' ∧ ∃ v : Int32, r = some (.int v) ∧ (0 : Int) ≤ v.toInt ∧ v.toInt ≤ 1 ∧ ((v.toInt = 0 ∧ (x1.toInt < 0 ∨ (m.1 3 3).toInt ≤ x1.toInt)) ∨ (v.toInt = 1 ∧ 0 ≤ x1.toInt ∧ x1.toInt < (m.1 3 3).toInt ∧ x1.toInt ≤ 7))) := by
  have f : Fx (RS []) m m := Fx.rf
  refine v_X1_has  ?_
  refine ⟨?_, ?_⟩
  · intro c1
    have k2 := y_ltr (n := 0) rfl c1
    exact ⟨w, f, _, rfl, (by show (0 : Int) ≤ (0 : Int); omega), (by show (0 : Int) ≤ (1 : Int); omega), (by show ((0 : Int) = 0 ∧ (x1.toInt < 0 ∨ (m.1 3 3).toInt ≤ x1.toInt)) ∨ ((0 : Int) = 1 ∧ 0 ≤ x1.toInt ∧ x1.toInt < (m.1 3 3).toInt ∧ x1.toInt ≤ 7); omega)⟩
  · intro c3
    have k4 := y_nltr (n := 0) rfl c3
    refine ⟨?_, ?_⟩
    · intro c5
      have r6 := w.at (a := 3) (k := 3) rfl
      have k7 := z_le c5
      exact ⟨w, f, _, rfl, (by show (0 : Int) ≤ (0 : Int); omega), (by show (0 : Int) ≤ (1 : Int); omega), (by show ((0 : Int) = 0 ∧ (x1.toInt < 0 ∨ (m.1 3 3).toInt ≤ x1.toInt)) ∨ ((0 : Int) = 1 ∧ 0 ≤ x1.toInt ∧ x1.toInt < (m.1 3 3).toInt ∧ x1.toInt ≤ 7); omega)⟩
    · intro c8
      have r9 := w.at (a := 3) (k := 3) rfl
      have k10 := z_nle c8
      exact ⟨w, f, _, rfl, (by show (0 : Int) ≤ (1 : Int); omega), (by show (1 : Int) ≤ (1 : Int); omega), (by show ((1 : Int) = 0 ∧ (x1.toInt < 0 ∨ (m.1 3 3).toInt ≤ x1.toInt)) ∨ ((1 : Int) = 1 ∧ 0 ≤ x1.toInt ∧ x1.toInt < (m.1 3 3).toInt ∧ x1.toInt ≤ 7); omega)⟩
set_option maxHeartbeats 4000000 in
theorem s_X1_knows {ad : Nat → Nat} {d : Nat} {m : Wm} {x1 : Int32} (w : WT m) : Ct ad μX1_knows d [.ref (ad 3), .int x1] m (fun r m' => WT m' ∧ Fx (RS []) m m' ∧ ∃ v : Int32, r = some (.int v) ∧ (0 : Int) ≤ v.toInt ∧ v.toInt ≤ 1) := by
  have f : Fx (RS []) m m := Fx.rf
  refine v_X1_knows  ?_
  refine ⟨?_, ?_⟩
  · intro c1
    have k2 := y_ltr (n := 0) rfl c1
    exact ⟨w, f, _, rfl, (by show (0 : Int) ≤ (0 : Int); omega), (by show (0 : Int) ≤ (1 : Int); omega)⟩
  · intro c3
    have k4 := y_nltr (n := 0) rfl c3
    refine ⟨?_, ?_⟩
    · intro c5
      have r6 := w.at (a := 3) (k := 4) rfl
      have k7 := z_le c5
      exact ⟨w, f, _, rfl, (by show (0 : Int) ≤ (0 : Int); omega), (by show (0 : Int) ≤ (1 : Int); omega)⟩
    · intro c8
      have r9 := w.at (a := 3) (k := 4) rfl
      have k10 := z_nle c8
      exact ⟨w, f, _, rfl, (by show (0 : Int) ≤ (1 : Int); omega), (by show (1 : Int) ≤ (1 : Int); omega)⟩
set_option maxHeartbeats 4000000 in
theorem s_X1_isIll {ad : Nat → Nat} {d : Nat} {m : Wm} {x1 : Int32} (w : WT m) : Ct ad μX1_isIll d [.ref (ad 3), .int x1] m (fun r m' => WT m' ∧ Fx (RS []) m m' ∧ ∃ v : Int32, r = some (.int v) ∧ (0 : Int) ≤ v.toInt ∧ v.toInt ≤ 1) := by
  have f : Fx (RS []) m m := Fx.rf
  refine v_X1_isIll  ?_
  refine ⟨?_, ?_⟩
  · intro c1
    have t2 := t_and1 ((m.1 3 5) >>> (x1 &&& 31))
    have k3 := y_eqr (n := 0) rfl c1
    exact ⟨w, f, _, rfl, (by show (0 : Int) ≤ (0 : Int); omega), (by show (0 : Int) ≤ (1 : Int); omega)⟩
  · intro c4
    have t5 := t_and1 ((m.1 3 5) >>> (x1 &&& 31))
    have k6 := y_ner (n := 0) rfl c4
    exact ⟨w, f, _, rfl, (by show (0 : Int) ≤ (1 : Int); omega), (by show (1 : Int) ≤ (1 : Int); omega)⟩
set_option maxHeartbeats 4000000 in
theorem s_X1_canMeet {ad : Nat → Nat} {d : Nat} {m : Wm} {x1 x2 : Int32} (w : WT m) : Ct ad μX1_canMeet (d + 1) [.ref (ad 3), .int x1, .int x2] m (fun r m' => WT m' ∧ Fx (RS []) m m' ∧ ∃ v : Int32, r = some (.int v) ∧ (0 : Int) ≤ v.toInt ∧ v.toInt ≤ 1 ∧ ((v.toInt = 0 ∧ (x1.toInt < 0 ∨ (m.1 3 3).toInt ≤ x1.toInt ∨ x2.toInt < 0 ∨ (m.1 3 3).toInt ≤ x2.toInt ∨ x1.toInt = x2.toInt)) ∨ (v.toInt = 1 ∧ 0 ≤ x1.toInt ∧ x1.toInt < (m.1 3 3).toInt ∧ x1.toInt ≤ 7 ∧ 0 ≤ x2.toInt ∧ x2.toInt < (m.1 3 3).toInt ∧ x2.toInt ≤ 7 ∧ x1.toInt ≠ x2.toInt))) := by
  have f : Fx (RS []) m m := Fx.rf
  refine v_X1_canMeet  ?_
  refine (s_X1_has w).to ?_
  rintro _ m1 ⟨w_m1, g1, v2, rfl, p3, p4, p2⟩
  have f_m1 : Fx (RS []) m m1 := f.tr g1 (RS_sub rfl)
  have p5 : (v2.toInt = 0 ∧ ((x1).toInt < 0 ∨ ((m.1 3 3)).toInt ≤ (x1).toInt)) ∨ (v2.toInt = 1 ∧ 0 ≤ (x1).toInt ∧ (x1).toInt < ((m.1 3 3)).toInt ∧ (x1).toInt ≤ 7) := p2
  clear p2
  have e6 : (m1.1 3 3).toInt = ((m.1 3 3)).toInt := congrArg _ (g1.at (a := 3) (k := 3) (by decide))
  refine ⟨v2, rfl, ?_⟩
  refine ⟨?_, ?_⟩
  · intro c7
    have k8 := y_eqr (n := 0) rfl c7
    exact ⟨w_m1, f_m1, _, rfl, (by show (0 : Int) ≤ (0 : Int); omega), (by show (0 : Int) ≤ (1 : Int); omega), (by show ((0 : Int) = 0 ∧ (x1.toInt < 0 ∨ (m.1 3 3).toInt ≤ x1.toInt ∨ x2.toInt < 0 ∨ (m.1 3 3).toInt ≤ x2.toInt ∨ x1.toInt = x2.toInt)) ∨ ((0 : Int) = 1 ∧ 0 ≤ x1.toInt ∧ x1.toInt < (m.1 3 3).toInt ∧ x1.toInt ≤ 7 ∧ 0 ≤ x2.toInt ∧ x2.toInt < (m.1 3 3).toInt ∧ x2.toInt ≤ 7 ∧ x1.toInt ≠ x2.toInt); omega)⟩
  · intro c9
    have k10 := y_ner (n := 0) rfl c9
    refine (s_X1_has w_m1).to ?_
    rintro _ m3 ⟨w_m3, g11, v4, rfl, p13, p14, p12⟩
    have f_m3 : Fx (RS []) m m3 := f_m1.tr g11 (RS_sub rfl)
    have p15 : (v4.toInt = 0 ∧ ((x2).toInt < 0 ∨ ((m1.1 3 3)).toInt ≤ (x2).toInt)) ∨ (v4.toInt = 1 ∧ 0 ≤ (x2).toInt ∧ (x2).toInt < ((m1.1 3 3)).toInt ∧ (x2).toInt ≤ 7) := p12
    clear p12
    have e16 : (m3.1 3 3).toInt = ((m1.1 3 3)).toInt := congrArg _ (g11.at (a := 3) (k := 3) (by decide))
    refine ⟨v4, rfl, ?_⟩
    refine ⟨?_, ?_⟩
    · intro c17
      have k18 := y_eqr (n := 0) rfl c17
      exact ⟨w_m3, f_m3, _, rfl, (by show (0 : Int) ≤ (0 : Int); omega), (by show (0 : Int) ≤ (1 : Int); omega), (by show ((0 : Int) = 0 ∧ (x1.toInt < 0 ∨ (m.1 3 3).toInt ≤ x1.toInt ∨ x2.toInt < 0 ∨ (m.1 3 3).toInt ≤ x2.toInt ∨ x1.toInt = x2.toInt)) ∨ ((0 : Int) = 1 ∧ 0 ≤ x1.toInt ∧ x1.toInt < (m.1 3 3).toInt ∧ x1.toInt ≤ 7 ∧ 0 ≤ x2.toInt ∧ x2.toInt < (m.1 3 3).toInt ∧ x2.toInt ≤ 7 ∧ x1.toInt ≠ x2.toInt); omega)⟩
    · intro c19
      have k20 := y_ner (n := 0) rfl c19
      refine ⟨?_, ?_⟩
      · intro c21
        have k22 := z_eq c21
        exact ⟨w_m3, f_m3, _, rfl, (by show (0 : Int) ≤ (0 : Int); omega), (by show (0 : Int) ≤ (1 : Int); omega), (by show ((0 : Int) = 0 ∧ (x1.toInt < 0 ∨ (m.1 3 3).toInt ≤ x1.toInt ∨ x2.toInt < 0 ∨ (m.1 3 3).toInt ≤ x2.toInt ∨ x1.toInt = x2.toInt)) ∨ ((0 : Int) = 1 ∧ 0 ≤ x1.toInt ∧ x1.toInt < (m.1 3 3).toInt ∧ x1.toInt ≤ 7 ∧ 0 ≤ x2.toInt ∧ x2.toInt < (m.1 3 3).toInt ∧ x2.toInt ≤ 7 ∧ x1.toInt ≠ x2.toInt); omega)⟩
      · intro c23
        have k24 := z_ne c23
        exact ⟨w_m3, f_m3, _, rfl, (by show (0 : Int) ≤ (1 : Int); omega), (by show (1 : Int) ≤ (1 : Int); omega), (by show ((1 : Int) = 0 ∧ (x1.toInt < 0 ∨ (m.1 3 3).toInt ≤ x1.toInt ∨ x2.toInt < 0 ∨ (m.1 3 3).toInt ≤ x2.toInt ∨ x1.toInt = x2.toInt)) ∨ ((1 : Int) = 1 ∧ 0 ≤ x1.toInt ∧ x1.toInt < (m.1 3 3).toInt ∧ x1.toInt ≤ 7 ∧ 0 ≤ x2.toInt ∧ x2.toInt < (m.1 3 3).toInt ∧ x2.toInt ≤ 7 ∧ x1.toInt ≠ x2.toInt); omega)⟩
set_option maxHeartbeats 4000000 in
theorem s_X8_skillOf {ad : Nat → Nat} {d : Nat} {m : Wm} {b0 ρ0 : Nat} {x1 x2 : Int32} (w : WT m) (hb0 : SS b0 ρ0) : Ct ad μX8_skillOf d [.ref (ad b0), .int x1, .int x2] m (fun r m' => WT m' ∧ Fx (RS []) m m' ∧ ∃ v : Int32, r = some (.int v)) := by
  have f : Fx (RS []) m m := Fx.rf
  refine v_X8_skillOf hb0.1 ?_
  refine ⟨?_, ?_⟩
  · intro c1
    have k2 := y_ltr (n := 0) rfl c1
    exact ⟨w, f, _, rfl⟩
  · intro c3
    have k4 := y_nltr (n := 0) rfl c3
    refine ⟨?_, ?_⟩
    · intro c5
      have k6 := y_lel (n := 32) rfl c5
      exact ⟨w, f, _, rfl⟩
    · intro c7
      have k8 := y_nlel (n := 32) rfl c7
      refine ⟨?_, ?_⟩
      · exact vpi (by omega) (by omega)
      · exact ⟨w, f, _, rfl⟩
set_option maxHeartbeats 4000000 in
theorem s_X8_putSkill {ad : Nat → Nat} {d : Nat} {m : Wm} {b0 ρ0 : Nat} {x1 x2 x3 : Int32} (w : WT m) (hb0 : SS b0 ρ0) : Ct ad μX8_putSkill d [.ref (ad b0), .int x1, .int x2, .int x3] m (fun r m' => WT m' ∧ Fx (RS (ρ0 :: [])) m m' ∧ r = none) := by
  have f : Fx (RS (ρ0 :: [])) m m := Fx.rf
  refine v_X8_putSkill hb0.1 ?_
  refine ⟨?_, ?_⟩
  · intro c1
    have k2 := y_ltr (n := 0) rfl c1
    exact ⟨w, f, rfl⟩
  · intro c3
    have k4 := y_nltr (n := 0) rfl c3
    refine ⟨?_, ?_⟩
    · intro c5
      have k6 := y_lel (n := 32) rfl c5
      exact ⟨w, f, rfl⟩
    · intro c7
      have k8 := y_nlel (n := 32) rfl c7
      refine ⟨?_, ?_⟩
      · exact vpi (by omega) (by omega)
      · have w9 : WT (uI m (b0 + 1) (((x1 * (4 : Int32)) + x2).toNatClampNeg) x3) := w.s hb0.2 (by decide)
        have f9 : Fx (RS (ρ0 :: [])) m (uI m (b0 + 1) (((x1 * (4 : Int32)) + x2).toNatClampNeg) x3) := f.i (RS_hd hb0.2 (by decide))
        exact ⟨w9, f9, rfl⟩
set_option maxHeartbeats 4000000 in
theorem l_X8_sum {ad : Nat → Nat} {d : Nat} {m0 : Wm} {b0 ρ0 : Nat} (hb0 : SS b0 ρ0) : ∀ n : Nat, (∀ (m : Wm) (x3 x4 x5 : Int32), WT m → Fx (RS []) m0 m → x4.toInt ≤ (32 : Int) → (0 : Int) ≤ x5.toInt → x5.toInt ≤ (32 : Int) → 32 - x5.toInt < (n : Int) → AW ad E0 μX8_sum (d + 1) (fun r m' => WT m' ∧ Fx (RS []) m0 m' ∧ ∃ v : Int32, r = some (.int v)) 26 [(0, .ref (ad b0)), (3, .int x3), (4, .int x4), (5, .int x5)] [] m) := by
  intro n
  induction n with
  | zero =>
    intros
    exfalso
    omega
  | succ n ih =>
    intro m x3 x4 x5 w f j1 j2 j3 hn
    refine g_X8_sum_26 hb0.1 ?_
    refine ⟨?_, ?_⟩
    · intro c1
      have k2 := z_le c1
      exact ⟨w, f, _, rfl⟩
    · intro c3
      have k4 := z_nle c3
      refine ⟨?_, ?_⟩
      · exact vpi (by omega) (by omega)
      · have t5 := ti_addc (x := x5) (y := (1 : Int32)) (c := 1) rfl (by omega)
        exact ih _ _ _ _ w f (by show (x4).toInt ≤ (32 : Int); omega) (by show (0 : Int) ≤ ((x5 + (1 : Int32))).toInt; omega) (by show ((x5 + (1 : Int32))).toInt ≤ (32 : Int); omega) (by show 32 - ((x5 + (1 : Int32))).toInt < _; omega)
set_option maxHeartbeats 4000000 in
theorem s_X8_sum {ad : Nat → Nat} {d : Nat} {m : Wm} {b0 ρ0 : Nat} {x1 x2 : Int32} (w : WT m) (hb0 : SS b0 ρ0) (i1 : (0 : Int) ≤ x1.toInt) (i2 : x1.toInt ≤ (7 : Int)) (i3 : (0 : Int) ≤ x2.toInt) (i4 : x2.toInt ≤ (4 : Int)) : Ct ad μX8_sum (d + 1) [.ref (ad b0), .int x1, .int x2] m (fun r m' => WT m' ∧ Fx (RS []) m m' ∧ ∃ v : Int32, r = some (.int v)) := by
  have f : Fx (RS []) m m := Fx.rf
  refine v_X8_sum hb0.1 ?_
  have t1 := ti_mulr (c := 4) (y := (4 : Int32)) (x := x1) rfl (by omega)
  have t2 := ti_add (x := (x1 * (4 : Int32))) (y := x2) (by omega)
  have t3 := ti_ltv (a := (32 : Int32)) (b := ((x1 * (4 : Int32)) + x2)) (c := (32 : Int32)) (d := ((x1 * (4 : Int32)) + x2)) (A := (32)) (B := ((x1 * (4 : Int32)) + x2).toInt) (C := (32)) (D := ((x1 * (4 : Int32)) + x2).toInt) rfl rfl rfl rfl
  have t4 := ti_ltv (a := x1) (b := (0 : Int32)) (c := (0 : Int32)) (d := x1) (A := x1.toInt) (B := (0)) (C := (0)) (D := x1.toInt) rfl rfl rfl rfl
  have t5 := ti_mulr (c := 4) (y := (4 : Int32)) (x := (if x1 < (0 : Int32) then (0 : Int32) else x1)) rfl (by omega)
  exact (l_X8_sum (m0 := m) hb0 1000000) _ _ _ _ w f (by show ((if (32 : Int32) < ((x1 * (4 : Int32)) + x2) then (32 : Int32) else ((x1 * (4 : Int32)) + x2))).toInt ≤ (32 : Int); omega) (by show (0 : Int) ≤ (((if x1 < (0 : Int32) then (0 : Int32) else x1) * (4 : Int32))).toInt; omega) (by show (((if x1 < (0 : Int32) then (0 : Int32) else x1) * (4 : Int32))).toInt ≤ (32 : Int); omega) (by show 32 - (((if x1 < (0 : Int32) then (0 : Int32) else x1) * (4 : Int32))).toInt < _; omega)
set_option maxHeartbeats 4000000 in
theorem l_X8_greatest {ad : Nat → Nat} {d : Nat} {m0 : Wm} {b0 ρ0 : Nat} (hb0 : SS b0 ρ0) : ∀ n : Nat, (∀ (m : Wm) (x3 x4 x5 : Int32), WT m → Fx (RS []) m0 m → x4.toInt ≤ (32 : Int) → (0 : Int) ≤ x5.toInt → x5.toInt ≤ (32 : Int) → 32 - x5.toInt < (n : Int) → AW ad E0 μX8_greatest (d + 1) (fun r m' => WT m' ∧ Fx (RS []) m0 m' ∧ ∃ v : Int32, r = some (.int v)) 26 [(0, .ref (ad b0)), (3, .int x3), (4, .int x4), (5, .int x5)] [] m) := by
  intro n
  induction n with
  | zero =>
    intros
    exfalso
    omega
  | succ n ih =>
    intro m x3 x4 x5 w f j1 j2 j3 hn
    refine g_X8_greatest_26 hb0.1 ?_
    refine ⟨?_, ?_⟩
    · intro c1
      have k2 := z_le c1
      exact ⟨w, f, _, rfl⟩
    · intro c3
      have k4 := z_nle c3
      refine ⟨?_, ?_⟩
      · exact vpi (by omega) (by omega)
      · have t5 := ti_addc (x := x5) (y := (1 : Int32)) (c := 1) rfl (by omega)
        exact ih _ _ _ _ w f (by show (x4).toInt ≤ (32 : Int); omega) (by show (0 : Int) ≤ ((x5 + (1 : Int32))).toInt; omega) (by show ((x5 + (1 : Int32))).toInt ≤ (32 : Int); omega) (by show 32 - ((x5 + (1 : Int32))).toInt < _; omega)
set_option maxHeartbeats 4000000 in
theorem s_X8_greatest {ad : Nat → Nat} {d : Nat} {m : Wm} {b0 ρ0 : Nat} {x1 x2 : Int32} (w : WT m) (hb0 : SS b0 ρ0) (i1 : (0 : Int) ≤ x1.toInt) (i2 : x1.toInt ≤ (7 : Int)) (i3 : (0 : Int) ≤ x2.toInt) (i4 : x2.toInt ≤ (4 : Int)) : Ct ad μX8_greatest (d + 1) [.ref (ad b0), .int x1, .int x2] m (fun r m' => WT m' ∧ Fx (RS []) m m' ∧ ∃ v : Int32, r = some (.int v)) := by
  have f : Fx (RS []) m m := Fx.rf
  refine v_X8_greatest hb0.1 ?_
  have t1 := ti_mulr (c := 4) (y := (4 : Int32)) (x := x1) rfl (by omega)
  have t2 := ti_add (x := (x1 * (4 : Int32))) (y := x2) (by omega)
  have t3 := ti_ltv (a := (32 : Int32)) (b := ((x1 * (4 : Int32)) + x2)) (c := (32 : Int32)) (d := ((x1 * (4 : Int32)) + x2)) (A := (32)) (B := ((x1 * (4 : Int32)) + x2).toInt) (C := (32)) (D := ((x1 * (4 : Int32)) + x2).toInt) rfl rfl rfl rfl
  have t4 := ti_ltv (a := x1) (b := (0 : Int32)) (c := (0 : Int32)) (d := x1) (A := x1.toInt) (B := (0)) (C := (0)) (D := x1.toInt) rfl rfl rfl rfl
  have t5 := ti_mulr (c := 4) (y := (4 : Int32)) (x := (if x1 < (0 : Int32) then (0 : Int32) else x1)) rfl (by omega)
  exact (l_X8_greatest (m0 := m) hb0 1000000) _ _ _ _ w f (by show ((if (32 : Int32) < ((x1 * (4 : Int32)) + x2) then (32 : Int32) else ((x1 * (4 : Int32)) + x2))).toInt ≤ (32 : Int); omega) (by show (0 : Int) ≤ (((if x1 < (0 : Int32) then (0 : Int32) else x1) * (4 : Int32))).toInt; omega) (by show (((if x1 < (0 : Int32) then (0 : Int32) else x1) * (4 : Int32))).toInt ≤ (32 : Int); omega) (by show 32 - (((if x1 < (0 : Int32) then (0 : Int32) else x1) * (4 : Int32))).toInt < _; omega)
set_option maxHeartbeats 4000000 in
theorem l_X8_least {ad : Nat → Nat} {d : Nat} {m0 : Wm} {b0 ρ0 : Nat} (hb0 : SS b0 ρ0) : ∀ n : Nat, (∀ (m : Wm) (x3 x4 x5 : Int32), WT m → Fx (RS []) m0 m → x4.toInt ≤ (32 : Int) → (0 : Int) ≤ x5.toInt → x5.toInt ≤ (32 : Int) → 32 - x5.toInt < (n : Int) → AW ad E0 μX8_least (d + 1) (fun r m' => WT m' ∧ Fx (RS []) m0 m' ∧ ∃ v : Int32, r = some (.int v)) 27 [(0, .ref (ad b0)), (3, .int x3), (4, .int x4), (5, .int x5)] [] m) := by
  intro n
  induction n with
  | zero =>
    intros
    exfalso
    omega
  | succ n ih =>
    intro m x3 x4 x5 w f j1 j2 j3 hn
    refine g_X8_least_27 hb0.1 ?_
    refine ⟨?_, ?_⟩
    · intro c1
      have k2 := z_le c1
      exact ⟨w, f, _, rfl⟩
    · intro c3
      have k4 := z_nle c3
      refine ⟨?_, ?_⟩
      · exact vpi (by omega) (by omega)
      · have t5 := ti_addc (x := x5) (y := (1 : Int32)) (c := 1) rfl (by omega)
        exact ih _ _ _ _ w f (by show (x4).toInt ≤ (32 : Int); omega) (by show (0 : Int) ≤ ((x5 + (1 : Int32))).toInt; omega) (by show ((x5 + (1 : Int32))).toInt ≤ (32 : Int); omega) (by show 32 - ((x5 + (1 : Int32))).toInt < _; omega)
set_option maxHeartbeats 4000000 in
theorem s_X8_least {ad : Nat → Nat} {d : Nat} {m : Wm} {b0 ρ0 : Nat} {x1 x2 : Int32} (w : WT m) (hb0 : SS b0 ρ0) (i1 : (0 : Int) ≤ x1.toInt) (i2 : x1.toInt ≤ (7 : Int)) (i3 : (0 : Int) ≤ x2.toInt) (i4 : x2.toInt ≤ (4 : Int)) : Ct ad μX8_least (d + 1) [.ref (ad b0), .int x1, .int x2] m (fun r m' => WT m' ∧ Fx (RS []) m m' ∧ ∃ v : Int32, r = some (.int v)) := by
  have f : Fx (RS []) m m := Fx.rf
  refine v_X8_least hb0.1 ?_
  have t1 := ti_mulr (c := 4) (y := (4 : Int32)) (x := x1) rfl (by omega)
  have t2 := ti_add (x := (x1 * (4 : Int32))) (y := x2) (by omega)
  have t3 := ti_ltv (a := (32 : Int32)) (b := ((x1 * (4 : Int32)) + x2)) (c := (32 : Int32)) (d := ((x1 * (4 : Int32)) + x2)) (A := (32)) (B := ((x1 * (4 : Int32)) + x2).toInt) (C := (32)) (D := ((x1 * (4 : Int32)) + x2).toInt) rfl rfl rfl rfl
  have t4 := ti_ltv (a := x1) (b := (0 : Int32)) (c := (0 : Int32)) (d := x1) (A := x1.toInt) (B := (0)) (C := (0)) (D := x1.toInt) rfl rfl rfl rfl
  have t5 := ti_mulr (c := 4) (y := (4 : Int32)) (x := (if x1 < (0 : Int32) then (0 : Int32) else x1)) rfl (by omega)
  exact (l_X8_least (m0 := m) hb0 1000000) _ _ _ _ w f (by show ((if (32 : Int32) < ((x1 * (4 : Int32)) + x2) then (32 : Int32) else ((x1 * (4 : Int32)) + x2))).toInt ≤ (32 : Int); omega) (by show (0 : Int) ≤ (((if x1 < (0 : Int32) then (0 : Int32) else x1) * (4 : Int32))).toInt; omega) (by show (((if x1 < (0 : Int32) then (0 : Int32) else x1) * (4 : Int32))).toInt ≤ (32 : Int); omega) (by show 32 - (((if x1 < (0 : Int32) then (0 : Int32) else x1) * (4 : Int32))).toInt < _; omega)
set_option maxHeartbeats 4000000 in
theorem l_X8_furthestArt {ad : Nat → Nat} {d : Nat} {m0 : Wm} {b0 ρ0 : Nat} (hb0 : SS b0 ρ0) : ∀ n : Nat, (∀ (m : Wm) (x3 x4 x5 x6 x7 x8 : Int32), WT m → Fx (RS []) m0 m → (0 : Int) ≤ x3.toInt → x3.toInt ≤ (4 : Int) → (0 : Int) ≤ x6.toInt → x6.toInt ≤ (28 : Int) → (0 : Int) ≤ x7.toInt → x7.toInt ≤ (28 : Int) → (0 : Int) ≤ x8.toInt → x8.toInt ≤ (4 : Int) → 4 - x8.toInt < (n : Int) → AW ad E0 μX8_furthestArt (d + 1) (fun r m' => WT m' ∧ Fx (RS []) m0 m' ∧ ∃ v : Int32, r = some (.int v)) 27 [(0, .ref (ad b0)), (3, .int x3), (4, .int x4), (5, .int x5), (6, .int x6), (7, .int x7), (8, .int x8)] [] m) := by
  intro n
  induction n with
  | zero =>
    intros
    exfalso
    omega
  | succ n ih =>
    intro m x3 x4 x5 x6 x7 x8 w f j1 j2 j3 j4 j5 j6 j7 j8 hn
    refine g_X8_furthestArt_27 hb0.1 ?_
    refine ⟨?_, ?_⟩
    · intro c1
      have k2 := z_le c1
      exact ⟨w, f, _, rfl⟩
    · intro c3
      have k4 := z_nle c3
      refine ⟨?_, ?_⟩
      · intro c5
        have t6 := ti_add (x := x6) (y := x8) (by omega)
        have k7 := y_lel (n := 32) rfl c5
        exact ⟨w, f, _, rfl⟩
      · intro c8
        have t9 := ti_add (x := x6) (y := x8) (by omega)
        have k10 := y_nlel (n := 32) rfl c8
        refine ⟨?_, ?_⟩
        · intro c11
          have t12 := ti_add (x := x7) (y := x8) (by omega)
          have k13 := y_lel (n := 32) rfl c11
          exact ⟨w, f, _, rfl⟩
        · intro c14
          have t15 := ti_add (x := x7) (y := x8) (by omega)
          have k16 := y_nlel (n := 32) rfl c14
          refine ⟨?_, ?_⟩
          · exact vpi (by omega) (by omega)
          · refine ⟨?_, ?_⟩
            · exact vpi (by omega) (by omega)
            · refine ⟨?_, ?_⟩
              · intro c17
                have k18 := z_le c17
                have t19 := ti_addc (x := x8) (y := (1 : Int32)) (c := 1) rfl (by omega)
                exact ih _ _ _ _ _ _ _ w f (by show (0 : Int) ≤ (x3).toInt; omega) (by show (x3).toInt ≤ (4 : Int); omega) (by show (0 : Int) ≤ (x6).toInt; omega) (by show (x6).toInt ≤ (28 : Int); omega) (by show (0 : Int) ≤ (x7).toInt; omega) (by show (x7).toInt ≤ (28 : Int); omega) (by show (0 : Int) ≤ ((x8 + (1 : Int32))).toInt; omega) (by show ((x8 + (1 : Int32))).toInt ≤ (4 : Int); omega) (by show 4 - ((x8 + (1 : Int32))).toInt < _; omega)
              · intro c20
                have k21 := z_nle c20
                have t22 := ti_addc (x := x8) (y := (1 : Int32)) (c := 1) rfl (by omega)
                exact ih _ _ _ _ _ _ _ w f (by show (0 : Int) ≤ (x3).toInt; omega) (by show (x3).toInt ≤ (4 : Int); omega) (by show (0 : Int) ≤ (x6).toInt; omega) (by show (x6).toInt ≤ (28 : Int); omega) (by show (0 : Int) ≤ (x7).toInt; omega) (by show (x7).toInt ≤ (28 : Int); omega) (by show (0 : Int) ≤ ((x8 + (1 : Int32))).toInt; omega) (by show ((x8 + (1 : Int32))).toInt ≤ (4 : Int); omega) (by show 4 - ((x8 + (1 : Int32))).toInt < _; omega)
set_option maxHeartbeats 4000000 in
theorem s_X8_furthestArt {ad : Nat → Nat} {d : Nat} {m : Wm} {b0 ρ0 : Nat} {x1 x2 x3 : Int32} (w : WT m) (hb0 : SS b0 ρ0) (i1 : (0 : Int) ≤ x1.toInt) (i2 : x1.toInt ≤ (7 : Int)) (i3 : (0 : Int) ≤ x2.toInt) (i4 : x2.toInt ≤ (7 : Int)) (i5 : (0 : Int) ≤ x3.toInt) (i6 : x3.toInt ≤ (4 : Int)) : Ct ad μX8_furthestArt (d + 1) [.ref (ad b0), .int x1, .int x2, .int x3] m (fun r m' => WT m' ∧ Fx (RS []) m m' ∧ ∃ v : Int32, r = some (.int v)) := by
  have f : Fx (RS []) m m := Fx.rf
  refine v_X8_furthestArt hb0.1 ?_
  have t1 := ti_ltv (a := x1) (b := (0 : Int32)) (c := (0 : Int32)) (d := x1) (A := x1.toInt) (B := (0)) (C := (0)) (D := x1.toInt) rfl rfl rfl rfl
  have t2 := ti_mulr (c := 4) (y := (4 : Int32)) (x := (if x1 < (0 : Int32) then (0 : Int32) else x1)) rfl (by omega)
  have t3 := ti_ltv (a := x2) (b := (0 : Int32)) (c := (0 : Int32)) (d := x2) (A := x2.toInt) (B := (0)) (C := (0)) (D := x2.toInt) rfl rfl rfl rfl
  have t4 := ti_mulr (c := 4) (y := (4 : Int32)) (x := (if x2 < (0 : Int32) then (0 : Int32) else x2)) rfl (by omega)
  exact (l_X8_furthestArt (m0 := m) hb0 1000000) _ _ _ _ _ _ _ w f (by show (0 : Int) ≤ (x3).toInt; omega) (by show (x3).toInt ≤ (4 : Int); omega) (by show (0 : Int) ≤ (((if x1 < (0 : Int32) then (0 : Int32) else x1) * (4 : Int32))).toInt; omega) (by show (((if x1 < (0 : Int32) then (0 : Int32) else x1) * (4 : Int32))).toInt ≤ (28 : Int); omega) (by show (0 : Int) ≤ (((if x2 < (0 : Int32) then (0 : Int32) else x2) * (4 : Int32))).toInt; omega) (by show (((if x2 < (0 : Int32) then (0 : Int32) else x2) * (4 : Int32))).toInt ≤ (28 : Int); omega) (by show (0 : Int) ≤ (0 : Int); omega) (by show (0 : Int) ≤ (4 : Int); omega) (by show 4 - (0 : Int) < _; omega)
set_option maxHeartbeats 4000000 in
theorem l_X8_copySkills {ad : Nat → Nat} {d : Nat} {m0 : Wm} {b0 b1 ρ0 ρ1 : Nat} (hb0 : SS b0 ρ0) (hb1 : SS b1 ρ1) : ∀ n : Nat, (∀ (m : Wm) (x2 x3 : Int32), WT m → Fx (RS (ρ0 :: [])) m0 m → (0 : Int) ≤ x3.toInt → x3.toInt ≤ (4 : Int) → 4 - x3.toInt < (n : Int) → AW ad E0 μX8_copySkills (d + 1) (fun r m' => WT m' ∧ Fx (RS (ρ0 :: [])) m0 m' ∧ r = none) 2 [(0, .ref (ad b0)), (1, .ref (ad b1)), (2, .int x2), (3, .int x3)] [] m) := by
  intro n
  induction n with
  | zero =>
    intros
    exfalso
    omega
  | succ n ih =>
    intro m x2 x3 w f j1 j2 hn
    refine g_X8_copySkills_2 hb0.1 hb1.1 ?_
    refine ⟨?_, ?_⟩
    · intro c1
      have k2 := y_lel (n := 4) rfl c1
      exact ⟨w, f, rfl⟩
    · intro c3
      have k4 := y_nlel (n := 4) rfl c3
      refine (s_X8_skillOf w hb1).to ?_
      rintro _ m1 ⟨w_m1, g5, v2, rfl⟩
      have f_m1 : Fx (RS (ρ0 :: [])) m0 m1 := f.tr g5 (RS_tl rfl)
      refine ⟨v2, rfl, ?_⟩
      refine (s_X8_putSkill w_m1 hb0).to ?_
      rintro _ m3 ⟨w_m3, g6, rfl⟩
      have f_m3 : Fx (RS (ρ0 :: [])) m0 m3 := f_m1.tr g6 (RS_cons rfl)
      refine ⟨rfl, ?_⟩
      have t7 := ti_addc (x := x3) (y := (1 : Int32)) (c := 1) rfl (by omega)
      exact ih _ _ _ w_m3 f_m3 (by show (0 : Int) ≤ ((x3 + (1 : Int32))).toInt; omega) (by show ((x3 + (1 : Int32))).toInt ≤ (4 : Int); omega) (by show 4 - ((x3 + (1 : Int32))).toInt < _; omega)
set_option maxHeartbeats 4000000 in
theorem s_X8_copySkills {ad : Nat → Nat} {d : Nat} {m : Wm} {b0 b1 ρ0 ρ1 : Nat} {x2 : Int32} (w : WT m) (hb0 : SS b0 ρ0) (hb1 : SS b1 ρ1) : Ct ad μX8_copySkills (d + 1) [.ref (ad b0), .ref (ad b1), .int x2] m (fun r m' => WT m' ∧ Fx (RS (ρ0 :: [])) m m' ∧ r = none) := by
  have f : Fx (RS (ρ0 :: [])) m m := Fx.rf
  refine v_X8_copySkills hb0.1 hb1.1 ?_
  exact (l_X8_copySkills (m0 := m) hb0 hb1 1000000) _ _ _ w f (by show (0 : Int) ≤ (0 : Int); omega) (by show (0 : Int) ≤ (4 : Int); omega) (by show 4 - (0 : Int) < _; omega)
set_option maxHeartbeats 4000000 in
theorem l_X8_clearSide {ad : Nat → Nat} {d : Nat} {m0 : Wm} {b0 ρ0 : Nat} (hb0 : SS b0 ρ0) : ∀ n : Nat, (∀ (m : Wm) (x1 x2 : Int32), WT m → Fx (RS (ρ0 :: [])) m0 m → (0 : Int) ≤ x1.toInt → x1.toInt ≤ (7 : Int) → (0 : Int) ≤ x2.toInt → x2.toInt ≤ (4 : Int) → 4 - x2.toInt < (n : Int) → AW ad E0 μX8_clearSide (d + 1) (fun r m' => WT m' ∧ Fx (RS (ρ0 :: [])) m0 m' ∧ r = none) 2 [(0, .ref (ad b0)), (1, .int x1), (2, .int x2)] [] m) := by
  intro n
  induction n with
  | zero =>
    intros
    exfalso
    omega
  | succ n ih =>
    intro m x1 x2 w f j1 j2 j3 j4 hn
    refine g_X8_clearSide_2 hb0.1 ?_
    refine ⟨?_, ?_⟩
    · intro c1
      have k2 := y_lel (n := 4) rfl c1
      refine ⟨?_, ?_⟩
      · exact vpi (by omega) (by omega)
      · refine ⟨?_, ?_⟩
        · exact vpi (by omega) (by omega)
        · refine ⟨?_, ?_⟩
          · exact vpi (by omega) (by omega)
          · have w3 : WT (uI m (b0 + 2) x1.toNatClampNeg (0 : Int32)) := w.s hb0.2 (by decide)
            have f3 : Fx (RS (ρ0 :: [])) m0 (uI m (b0 + 2) x1.toNatClampNeg (0 : Int32)) := f.i (RS_hd hb0.2 (by decide))
            have w4 : WT (uI (uI m (b0 + 2) x1.toNatClampNeg (0 : Int32)) (b0 + 3) x1.toNatClampNeg (0 : Int32)) := w3.s hb0.2 (by decide)
            have f4 : Fx (RS (ρ0 :: [])) m0 (uI (uI m (b0 + 2) x1.toNatClampNeg (0 : Int32)) (b0 + 3) x1.toNatClampNeg (0 : Int32)) := f3.i (RS_hd hb0.2 (by decide))
            have w5 : WT (uI (uI (uI m (b0 + 2) x1.toNatClampNeg (0 : Int32)) (b0 + 3) x1.toNatClampNeg (0 : Int32)) (b0 + 4) x1.toNatClampNeg (0 : Int32)) := w4.s hb0.2 (by decide)
            have f5 : Fx (RS (ρ0 :: [])) m0 (uI (uI (uI m (b0 + 2) x1.toNatClampNeg (0 : Int32)) (b0 + 3) x1.toNatClampNeg (0 : Int32)) (b0 + 4) x1.toNatClampNeg (0 : Int32)) := f4.i (RS_hd hb0.2 (by decide))
            exact ⟨w5, f5, rfl⟩
    · intro c6
      have k7 := y_nlel (n := 4) rfl c6
      refine (s_X8_putSkill w hb0).to ?_
      rintro _ m1 ⟨w_m1, g8, rfl⟩
      have f_m1 : Fx (RS (ρ0 :: [])) m0 m1 := f.tr g8 (RS_cons rfl)
      refine ⟨rfl, ?_⟩
      have t9 := ti_addc (x := x2) (y := (1 : Int32)) (c := 1) rfl (by omega)
      exact ih _ _ _ w_m1 f_m1 (by show (0 : Int) ≤ (x1).toInt; omega) (by show (x1).toInt ≤ (7 : Int); omega) (by show (0 : Int) ≤ ((x2 + (1 : Int32))).toInt; omega) (by show ((x2 + (1 : Int32))).toInt ≤ (4 : Int); omega) (by show 4 - ((x2 + (1 : Int32))).toInt < _; omega)
set_option maxHeartbeats 4000000 in
theorem s_X8_clearSide {ad : Nat → Nat} {d : Nat} {m : Wm} {b0 ρ0 : Nat} {x1 : Int32} (w : WT m) (hb0 : SS b0 ρ0) (i1 : (0 : Int) ≤ x1.toInt) (i2 : x1.toInt ≤ (7 : Int)) : Ct ad μX8_clearSide (d + 1) [.ref (ad b0), .int x1] m (fun r m' => WT m' ∧ Fx (RS (ρ0 :: [])) m m' ∧ r = none) := by
  have f : Fx (RS (ρ0 :: [])) m m := Fx.rf
  refine v_X8_clearSide hb0.1 ?_
  exact (l_X8_clearSide (m0 := m) hb0 1000000) _ _ _ w f (by show (0 : Int) ≤ (x1).toInt; omega) (by show (x1).toInt ≤ (7 : Int); omega) (by show (0 : Int) ≤ (0 : Int); omega) (by show (0 : Int) ≤ (4 : Int); omega) (by show 4 - (0 : Int) < _; omega)
set_option maxHeartbeats 4000000 in
theorem s_X11_clamp {ad : Nat → Nat} {d : Nat} {m : Wm} {x0 x1 x2 : Int32} (w : WT m) : Ct ad μX11_clamp d [.int x0, .int x1, .int x2] m (fun r m' => WT m' ∧ Fx (RS []) m m' ∧ ∃ v : Int32, r = some (.int v) ∧ (x2.toInt < x1.toInt ∨ (x1.toInt ≤ v.toInt ∧ v.toInt ≤ x2.toInt))) := by
  have f : Fx (RS []) m m := Fx.rf
  refine v_X11_clamp  ?_
  refine ⟨?_, ?_⟩
  · intro c1
    have k2 := z_le c1
    refine ⟨?_, ?_⟩
    · intro c3
      have k4 := z_le c3
      exact ⟨w, f, _, rfl, (by show x2.toInt < x1.toInt ∨ (x1.toInt ≤ (x0).toInt ∧ (x0).toInt ≤ x2.toInt); omega)⟩
    · intro c5
      have k6 := z_nle c5
      exact ⟨w, f, _, rfl, (by show x2.toInt < x1.toInt ∨ (x1.toInt ≤ (x2).toInt ∧ (x2).toInt ≤ x2.toInt); omega)⟩
  · intro c7
    have k8 := z_nle c7
    exact ⟨w, f, _, rfl, (by show x2.toInt < x1.toInt ∨ (x1.toInt ≤ (x1).toInt ∧ (x1).toInt ≤ x2.toInt); omega)⟩
set_option maxHeartbeats 4000000 in
theorem s_X5_rank {ad : Nat → Nat} {d : Nat} {m : Wm} {x0 : Int32} (w : WT m) : Ct ad μX5_rank d [.int x0] m (fun r m' => WT m' ∧ Fx (RS []) m m' ∧ ∃ v : Int32, r = some (.int v) ∧ (0 : Int) ≤ v.toInt ∧ v.toInt ≤ 4) := by
  have f : Fx (RS []) m m := Fx.rf
  refine v_X5_rank  ?_
  refine ⟨?_, ?_, ?_, ?_, ?_, ?_, ?_, ?_, ?_⟩
  · intro c1
    have k2 := y_eqr (n := 42) rfl c1
    exact ⟨w, f, _, rfl, (by show (0 : Int) ≤ (3 : Int); omega), (by show (3 : Int) ≤ (4 : Int); omega)⟩
  · intro c3
    have k4 := y_eqr (n := 43) rfl c3
    exact ⟨w, f, _, rfl, (by show (0 : Int) ≤ (2 : Int); omega), (by show (2 : Int) ≤ (4 : Int); omega)⟩
  · intro c5
    have k6 := y_eqr (n := 45) rfl c5
    exact ⟨w, f, _, rfl, (by show (0 : Int) ≤ (2 : Int); omega), (by show (2 : Int) ≤ (4 : Int); omega)⟩
  · intro c7
    have k8 := y_eqr (n := 47) rfl c7
    exact ⟨w, f, _, rfl, (by show (0 : Int) ≤ (3 : Int); omega), (by show (3 : Int) ≤ (4 : Int); omega)⟩
  · intro c9
    have k10 := y_eqr (n := 60) rfl c9
    exact ⟨w, f, _, rfl, (by show (0 : Int) ≤ (1 : Int); omega), (by show (1 : Int) ≤ (4 : Int); omega)⟩
  · intro c11
    have k12 := y_eqr (n := 61) rfl c11
    exact ⟨w, f, _, rfl, (by show (0 : Int) ≤ (1 : Int); omega), (by show (1 : Int) ≤ (4 : Int); omega)⟩
  · intro c13
    have k14 := y_eqr (n := 62) rfl c13
    exact ⟨w, f, _, rfl, (by show (0 : Int) ≤ (1 : Int); omega), (by show (1 : Int) ≤ (4 : Int); omega)⟩
  · intro c15
    have k16 := y_eqr (n := 256) rfl c15
    exact ⟨w, f, _, rfl, (by show (0 : Int) ≤ (4 : Int); omega), (by show (4 : Int) ≤ (4 : Int); omega)⟩
  · intro c17
    have k18 := y_ner (n := 42) rfl c17
    intro c19
    have k20 := y_ner (n := 43) rfl c19
    intro c21
    have k22 := y_ner (n := 45) rfl c21
    intro c23
    have k24 := y_ner (n := 47) rfl c23
    intro c25
    have k26 := y_ner (n := 60) rfl c25
    intro c27
    have k28 := y_ner (n := 61) rfl c27
    intro c29
    have k30 := y_ner (n := 62) rfl c29
    intro c31
    have k32 := y_ner (n := 256) rfl c31
    exact ⟨w, f, _, rfl, (by show (0 : Int) ≤ (0 : Int); omega), (by show (0 : Int) ≤ (4 : Int); omega)⟩
set_option maxHeartbeats 4000000 in
theorem l_X5_isThing {ad : Nat → Nat} {d : Nat} {m0 : Wm}  : ∀ n : Nat, (∀ (m : Wm) (x0 : Int32), WT m → Fx (RS []) m0 m → 0 * x0.toInt < (n : Int) → AW ad E0 μX5_isThing d (fun r m' => WT m' ∧ Fx (RS []) m0 m' ∧ ∃ v : Int32, r = some (.int v) ∧ (0 : Int) ≤ v.toInt ∧ v.toInt ≤ 1) 12 [(0, .int x0)] [] m) := by
  intro n
  induction n with
  | zero =>
    intros
    exfalso
    omega
  | succ n ih =>
    intro m x0 w f  hn
    refine g_X5_isThing_12  ?_
    refine ⟨?_, ?_⟩
    · intro c1
      have k2 := y_eqr (n := 115) rfl c1
      exact ⟨w, f, _, rfl, (by show (0 : Int) ≤ (1 : Int); omega), (by show (1 : Int) ≤ (1 : Int); omega)⟩
    · intro c3
      have k4 := y_ner (n := 115) rfl c3
      refine ⟨?_, ?_⟩
      · intro c5
        have k6 := y_eqr (n := 109) rfl c5
        exact ⟨w, f, _, rfl, (by show (0 : Int) ≤ (1 : Int); omega), (by show (1 : Int) ≤ (1 : Int); omega)⟩
      · intro c7
        have k8 := y_ner (n := 109) rfl c7
        refine ⟨?_, ?_⟩
        · intro c9
          have k10 := y_eqr (n := 108) rfl c9
          exact ⟨w, f, _, rfl, (by show (0 : Int) ≤ (1 : Int); omega), (by show (1 : Int) ≤ (1 : Int); omega)⟩
        · intro c11
          have k12 := y_ner (n := 108) rfl c11
          refine ⟨?_, ?_⟩
          · intro c13
            have k14 := y_eqr (n := 105) rfl c13
            exact ⟨w, f, _, rfl, (by show (0 : Int) ≤ (1 : Int); omega), (by show (1 : Int) ≤ (1 : Int); omega)⟩
          · intro c15
            have k16 := y_ner (n := 105) rfl c15
            refine ⟨?_, ?_⟩
            · intro c17
              have k18 := y_eqr (n := 112) rfl c17
              exact ⟨w, f, _, rfl, (by show (0 : Int) ≤ (1 : Int); omega), (by show (1 : Int) ≤ (1 : Int); omega)⟩
            · intro c19
              have k20 := y_ner (n := 112) rfl c19
              refine ⟨?_, ?_⟩
              · intro c21
                have k22 := y_ner (n := 114) rfl c21
                exact ⟨w, f, _, rfl, (by show (0 : Int) ≤ (0 : Int); omega), (by show (0 : Int) ≤ (1 : Int); omega)⟩
              · intro c23
                have k24 := y_eqr (n := 114) rfl c23
                exact ⟨w, f, _, rfl, (by show (0 : Int) ≤ (1 : Int); omega), (by show (1 : Int) ≤ (1 : Int); omega)⟩
set_option maxHeartbeats 4000000 in
theorem s_X5_isThing {ad : Nat → Nat} {d : Nat} {m : Wm} {x0 : Int32} (w : WT m) : Ct ad μX5_isThing d [.int x0] m (fun r m' => WT m' ∧ Fx (RS []) m m' ∧ ∃ v : Int32, r = some (.int v) ∧ (0 : Int) ≤ v.toInt ∧ v.toInt ≤ 1) := by
  have f : Fx (RS []) m m := Fx.rf
  refine v_X5_isThing  ?_
  refine ⟨?_, ?_⟩
  · intro c1
    have k2 := y_ltr (n := 97) rfl c1
    exact (l_X5_isThing (m0 := m) 1000000) _ _ w f (by show 0 * (x0).toInt < _; omega)
  · intro c3
    have k4 := y_nltr (n := 97) rfl c3
    refine ⟨?_, ?_⟩
    · intro c5
      have k6 := y_ler (n := 100) rfl c5
      exact ⟨w, f, _, rfl, (by show (0 : Int) ≤ (1 : Int); omega), (by show (1 : Int) ≤ (1 : Int); omega)⟩
    · intro c7
      have k8 := y_nler (n := 100) rfl c7
      exact (l_X5_isThing (m0 := m) 1000000) _ _ w f (by show 0 * (x0).toInt < _; omega)
set_option maxHeartbeats 4000000 in
theorem s_X5_joined {ad : Nat → Nat} {d : Nat} {m : Wm} {x0 x1 x2 : Int32} (w : WT m) : Ct ad μX5_joined d [.int x0, .int x1, .int x2] m (fun r m' => WT m' ∧ Fx (RS []) m m' ∧ ∃ v : Int32, r = some (.int v)) := by
  have f : Fx (RS []) m m := Fx.rf
  refine v_X5_joined  ?_
  refine ⟨?_, ?_, ?_, ?_, ?_, ?_, ?_⟩
  · intro c1
    have k2 := y_eqr (n := 42) rfl c1
    exact ⟨w, f, _, rfl⟩
  · intro c3
    have k4 := y_eqr (n := 43) rfl c3
    exact ⟨w, f, _, rfl⟩
  · intro c5
    have k6 := y_eqr (n := 45) rfl c5
    exact ⟨w, f, _, rfl⟩
  · intro c7
    have k8 := y_eqr (n := 60) rfl c7
    refine ⟨?_, ?_⟩
    · intro c9
      have k10 := z_le c9
      exact ⟨w, f, _, rfl⟩
    · intro c11
      have k12 := z_nle c11
      exact ⟨w, f, _, rfl⟩
  · intro c13
    have k14 := y_eqr (n := 61) rfl c13
    refine ⟨?_, ?_⟩
    · intro c15
      have k16 := z_ne c15
      exact ⟨w, f, _, rfl⟩
    · intro c17
      have k18 := z_eq c17
      exact ⟨w, f, _, rfl⟩
  · intro c19
    have k20 := y_eqr (n := 62) rfl c19
    refine ⟨?_, ?_⟩
    · intro c21
      have k22 := z_le c21
      exact ⟨w, f, _, rfl⟩
    · intro c23
      have k24 := z_nle c23
      exact ⟨w, f, _, rfl⟩
  · intro c25
    have k26 := y_ner (n := 42) rfl c25
    intro c27
    have k28 := y_ner (n := 43) rfl c27
    intro c29
    have k30 := y_ner (n := 45) rfl c29
    intro c31
    have k32 := y_ner (n := 60) rfl c31
    intro c33
    have k34 := y_ner (n := 61) rfl c33
    intro c35
    have k36 := y_ner (n := 62) rfl c35
    refine ⟨?_, ?_⟩
    · intro c37
      have k38 := y_ner (n := 0) rfl c37
      refine ⟨?_, ?_⟩
      · first | assumption | (show ¬ x2 = (0 : Int32); exact y_nn (n := 0) rfl (by omega))
      · exact ⟨w, f, _, rfl⟩
    · intro c39
      have k40 := y_eqr (n := 0) rfl c39
      exact ⟨w, f, _, rfl⟩
set_option maxHeartbeats 4000000 in
theorem s_X5_thing {ad : Nat → Nat} {d : Nat} {m : Wm} {b1 ρ1 : Nat} {x0 x2 x3 : Int32} (w : WT m) (hb1 : SS b1 ρ1) (i1 : (0 : Int) ≤ x2.toInt) (i2 : x2.toInt ≤ (7 : Int)) (i3 : (0 : Int) ≤ x3.toInt) (i4 : x3.toInt ≤ (4 : Int)) : Ct ad μX5_thing (d + 2) [.int x0, .ref (ad b1), .int x2, .int x3] m (fun r m' => WT m' ∧ Fx (RS []) m m' ∧ ∃ v : Int32, r = some (.int v)) := by
  have f : Fx (RS []) m m := Fx.rf
  refine v_X5_thing hb1.1 ?_
  refine ⟨?_, ?_, ?_, ?_, ?_, ?_, ?_⟩
  · intro c1
    have k2 := y_eqr (n := 105) rfl c1
    exact ⟨w, f, _, rfl⟩
  · intro c3
    have k4 := y_eqr (n := 108) rfl c3
    refine (s_X8_least w hb1 (by show (0 : Int) ≤ (x2).toInt; omega) (by show (x2).toInt ≤ (7 : Int); omega) (by show (0 : Int) ≤ (x3).toInt; omega) (by show (x3).toInt ≤ (4 : Int); omega)).to ?_
    rintro _ m3 ⟨w_m3, g5, v4, rfl⟩
    have f_m3 : Fx (RS []) m m3 := f.tr g5 (RS_sub rfl)
    refine ⟨v4, rfl, ?_⟩
    exact ⟨w_m3, f_m3, _, rfl⟩
  · intro c6
    have k7 := y_eqr (n := 109) rfl c6
    refine (s_X8_greatest w hb1 (by show (0 : Int) ≤ (x2).toInt; omega) (by show (x2).toInt ≤ (7 : Int); omega) (by show (0 : Int) ≤ (x3).toInt; omega) (by show (x3).toInt ≤ (4 : Int); omega)).to ?_
    rintro _ m5 ⟨w_m5, g8, v6, rfl⟩
    have f_m5 : Fx (RS []) m m5 := f.tr g8 (RS_sub rfl)
    refine ⟨v6, rfl, ?_⟩
    exact ⟨w_m5, f_m5, _, rfl⟩
  · intro c9
    have k10 := y_eqr (n := 112) rfl c9
    refine ⟨?_, ?_⟩
    · exact vpi (by omega) (by omega)
    · exact ⟨w, f, _, rfl⟩
  · intro c11
    have k12 := y_eqr (n := 114) rfl c11
    refine ⟨?_, ?_⟩
    · exact vpi (by omega) (by omega)
    · exact ⟨w, f, _, rfl⟩
  · intro c13
    have k14 := y_eqr (n := 115) rfl c13
    refine (s_X8_sum w hb1 (by show (0 : Int) ≤ (x2).toInt; omega) (by show (x2).toInt ≤ (7 : Int); omega) (by show (0 : Int) ≤ (x3).toInt; omega) (by show (x3).toInt ≤ (4 : Int); omega)).to ?_
    rintro _ m7 ⟨w_m7, g15, v8, rfl⟩
    have f_m7 : Fx (RS []) m m7 := f.tr g15 (RS_sub rfl)
    refine ⟨v8, rfl, ?_⟩
    exact ⟨w_m7, f_m7, _, rfl⟩
  · intro c16
    have k17 := y_ner (n := 105) rfl c16
    intro c18
    have k19 := y_ner (n := 108) rfl c18
    intro c20
    have k21 := y_ner (n := 109) rfl c20
    intro c22
    have k23 := y_ner (n := 112) rfl c22
    intro c24
    have k25 := y_ner (n := 114) rfl c24
    intro c26
    have k27 := y_ner (n := 115) rfl c26
    refine ⟨?_, ?_⟩
    · intro c28
      have k29 := z_le c28
      exact ⟨w, f, _, rfl⟩
    · intro c30
      have k31 := z_nle c30
      refine (s_X8_skillOf w hb1).to ?_
      rintro _ m1 ⟨w_m1, g32, v2, rfl⟩
      have f_m1 : Fx (RS []) m m1 := f.tr g32 (RS_sub rfl)
      refine ⟨v2, rfl, ?_⟩
      exact ⟨w_m1, f_m1, _, rfl⟩
set_option maxHeartbeats 4000000 in
theorem l_X5_value_5 {ad : Nat → Nat} {d : Nat} {m0 : Wm} {b1 ρ1 : Nat} (hb1 : SS b1 ρ1) : ∀ n : Nat, (∀ (m : Wm) (x2 x3 x4 x5 : Int32), WT m → Fx (RS [14]) m0 m → (0 : Int) ≤ x4.toInt → x4.toInt ≤ (40 : Int) → (0 : Int) ≤ x2.toInt → x2.toInt ≤ (7 : Int) → (0 : Int) ≤ x3.toInt → x3.toInt ≤ (4 : Int) → (0 : Int) ≤ x5.toInt → x5.toInt ≤ (40 : Int) → (40 - x5.toInt) * 4 + 3 < (n : Int) → AW ad E0 μX5_value (d + 3) (fun r m' => WT m' ∧ Fx (RS [14]) m0 m' ∧ ∃ v : Int32, r = some (.int v)) 20 [(0, .ref (ad 5)), (1, .ref (ad b1)), (2, .int x2), (3, .int x3), (4, .int x4), (5, .int x5)] [] m) ∧ (∀ (m : Wm) (x2 x3 x4 x5 x6 s0 : Int32), WT m → Fx (RS [14]) m0 m → (0 : Int) ≤ x4.toInt → x4.toInt ≤ (40 : Int) → (0 : Int) ≤ x2.toInt → x2.toInt ≤ (7 : Int) → (0 : Int) ≤ x3.toInt → x3.toInt ≤ (4 : Int) → (0 : Int) ≤ x5.toInt → x5.toInt ≤ (39 : Int) → (40 - x5.toInt) * 4 + 2 < (n : Int) → AW ad E0 μX5_value (d + 3) (fun r m' => WT m' ∧ Fx (RS [14]) m0 m' ∧ ∃ v : Int32, r = some (.int v)) 59 [(0, .ref (ad 5)), (1, .ref (ad b1)), (2, .int x2), (3, .int x3), (4, .int x4), (5, .int x5), (6, .int x6)] [.int s0] m) ∧ (∀ (m : Wm) (x2 x3 x4 x5 x6 x7 : Int32), WT m → Fx (RS [14]) m0 m → (0 : Int) ≤ x4.toInt → x4.toInt ≤ (40 : Int) → (0 : Int) ≤ x2.toInt → x2.toInt ≤ (7 : Int) → (0 : Int) ≤ x3.toInt → x3.toInt ≤ (4 : Int) → (0 : Int) ≤ x5.toInt → x5.toInt ≤ (39 : Int) → (40 - x5.toInt) * 4 + 1 < (n : Int) → AW ad E0 μX5_value (d + 3) (fun r m' => WT m' ∧ Fx (RS [14]) m0 m' ∧ ∃ v : Int32, r = some (.int v)) 111 [(0, .ref (ad 5)), (1, .ref (ad b1)), (2, .int x2), (3, .int x3), (4, .int x4), (5, .int x5), (6, .int x6), (7, .int x7)] [] m) ∧ (∀ (m : Wm) (x2 x3 x4 x5 x6 : Int32), WT m → Fx (RS [14]) m0 m → (0 : Int) ≤ x4.toInt → x4.toInt ≤ (40 : Int) → (0 : Int) ≤ x2.toInt → x2.toInt ≤ (7 : Int) → (0 : Int) ≤ x3.toInt → x3.toInt ≤ (4 : Int) → (0 : Int) ≤ x5.toInt → x5.toInt ≤ (39 : Int) → (40 - x5.toInt) * 4 < (n : Int) → AW ad E0 μX5_value (d + 3) (fun r m' => WT m' ∧ Fx (RS [14]) m0 m' ∧ ∃ v : Int32, r = some (.int v)) 144 [(0, .ref (ad 5)), (1, .ref (ad b1)), (2, .int x2), (3, .int x3), (4, .int x4), (5, .int x5), (6, .int x6)] [] m) := by
  intro n
  induction n with
  | zero =>
    refine ⟨?_, ?_, ?_, ?_⟩ <;> intros <;> exfalso <;> omega
  | succ n ih =>
    refine ⟨?_, ?_, ?_, ?_⟩
    · intro m x2 x3 x4 x5 w f j1 j2 j3 j4 j5 j6 j7 j8 hn
      refine g_X5_value_20 Ru_5 hb1.1 ?_
      refine ⟨?_, ?_⟩
      · intro c1
        have r2 := w.at (a := 5) (k := 4) rfl
        have k3 := z_le c1
        refine (s_X11_clamp w).to ?_
        rintro _ m1 ⟨w_m1, g4, v2, rfl, p5⟩
        have f_m1 : Fx (RS [14]) m0 m1 := f.tr g4 (RS_sub rfl)
        have p6 : (9999 : Int) < (-9999 : Int) ∨ ((-9999 : Int) ≤ v2.toInt ∧ v2.toInt ≤ (9999 : Int)) := p5
        clear p5
        refine ⟨v2, rfl, ?_⟩
        exact ⟨w_m1, f_m1, _, rfl⟩
      · intro c7
        have r8 := w.at (a := 5) (k := 4) rfl
        have k9 := z_nle c7
        refine ⟨?_, ?_⟩
        · exact vpi (by omega) (by omega)
        · refine ⟨?_, ?_⟩
          · intro c10
            have k11 := y_lel (n := 1000) rfl c10
            refine (s_X5_rank w).to ?_
            rintro _ m3 ⟨w_m3, g12, v4, rfl, p13, p14⟩
            have f_m3 : Fx (RS [14]) m0 m3 := f.tr g12 (RS_sub rfl)
            refine ⟨v4, rfl, ?_⟩
            exact ih.2.1 _ _ _ _ _ _ _ w_m3 f_m3 (by show (0 : Int) ≤ (x4).toInt; omega) (by show (x4).toInt ≤ (40 : Int); omega) (by show (0 : Int) ≤ (x2).toInt; omega) (by show (x2).toInt ≤ (7 : Int); omega) (by show (0 : Int) ≤ (x3).toInt; omega) (by show (x3).toInt ≤ (4 : Int); omega) (by show (0 : Int) ≤ (x5).toInt; omega) (by show (x5).toInt ≤ (39 : Int); omega) (by show (40 - (x5).toInt) * 4 + 2 < _; omega)
          · intro c15
            have k16 := y_nlel (n := 1000) rfl c15
            exact ih.2.1 _ _ _ _ _ _ _ w f (by show (0 : Int) ≤ (x4).toInt; omega) (by show (x4).toInt ≤ (40 : Int); omega) (by show (0 : Int) ≤ (x2).toInt; omega) (by show (x2).toInt ≤ (7 : Int); omega) (by show (0 : Int) ≤ (x3).toInt; omega) (by show (x3).toInt ≤ (4 : Int); omega) (by show (0 : Int) ≤ (x5).toInt; omega) (by show (x5).toInt ≤ (39 : Int); omega) (by show (40 - (x5).toInt) * 4 + 2 < _; omega)
    · intro m x2 x3 x4 x5 x6 s0 w f j1 j2 j3 j4 j5 j6 j7 j8 hn
      refine g_X5_value_59 Ru_5 hb1.1 ?_
      refine ⟨?_, ?_⟩
      · intro c1
        have k2 := y_ner (n := 0) rfl c1
        exact ih.2.2.1 _ _ _ _ _ _ _ w f (by show (0 : Int) ≤ (x4).toInt; omega) (by show (x4).toInt ≤ (40 : Int); omega) (by show (0 : Int) ≤ (x2).toInt; omega) (by show (x2).toInt ≤ (7 : Int); omega) (by show (0 : Int) ≤ (x3).toInt; omega) (by show (x3).toInt ≤ (4 : Int); omega) (by show (0 : Int) ≤ (x5).toInt; omega) (by show (x5).toInt ≤ (39 : Int); omega) (by show (40 - (x5).toInt) * 4 + 1 < _; omega)
      · intro c3
        have k4 := y_eqr (n := 0) rfl c3
        refine ⟨?_, ?_⟩
        · intro c5
          have k6 := y_lel (n := 40) rfl c5
          exact ih.2.2.1 _ _ _ _ _ _ _ w f (by show (0 : Int) ≤ (x4).toInt; omega) (by show (x4).toInt ≤ (40 : Int); omega) (by show (0 : Int) ≤ (x2).toInt; omega) (by show (x2).toInt ≤ (7 : Int); omega) (by show (0 : Int) ≤ (x3).toInt; omega) (by show (x3).toInt ≤ (4 : Int); omega) (by show (0 : Int) ≤ (x5).toInt; omega) (by show (x5).toInt ≤ (39 : Int); omega) (by show (40 - (x5).toInt) * 4 + 1 < _; omega)
        · intro c7
          have k8 := y_nlel (n := 40) rfl c7
          refine ⟨?_, ?_⟩
          · intro c9
            have k10 := y_lel (n := 1000) rfl c9
            refine (s_X5_thing w hb1 (by show (0 : Int) ≤ (x2).toInt; omega) (by show (x2).toInt ≤ (7 : Int); omega) (by show (0 : Int) ≤ (x3).toInt; omega) (by show (x3).toInt ≤ (4 : Int); omega)).to ?_
            rintro _ m1 ⟨w_m1, g11, v2, rfl⟩
            have f_m1 : Fx (RS [14]) m0 m1 := f.tr g11 (RS_sub rfl)
            refine ⟨v2, rfl, ?_⟩
            refine ⟨?_, ?_⟩
            · exact vpi (by omega) (by omega)
            · have w12 : WT (uI m1 (5 + 2) x4.toNatClampNeg v2) := w_m1.n rfl
              have f12 : Fx (RS [14]) m0 (uI m1 (5 + 2) x4.toNatClampNeg v2) := f_m1.i rfl
              have t13 := ti_addc (x := x4) (y := (1 : Int32)) (c := 1) rfl (by omega)
              have t14 := ti_addc (x := x5) (y := (1 : Int32)) (c := 1) rfl (by omega)
              exact ih.1 _ _ _ _ _ w12 f12 (by show (0 : Int) ≤ ((x4 + (1 : Int32))).toInt; omega) (by show ((x4 + (1 : Int32))).toInt ≤ (40 : Int); omega) (by show (0 : Int) ≤ (x2).toInt; omega) (by show (x2).toInt ≤ (7 : Int); omega) (by show (0 : Int) ≤ (x3).toInt; omega) (by show (x3).toInt ≤ (4 : Int); omega) (by show (0 : Int) ≤ ((x5 + (1 : Int32))).toInt; omega) (by show ((x5 + (1 : Int32))).toInt ≤ (40 : Int); omega) (by show (40 - ((x5 + (1 : Int32))).toInt) * 4 + 3 < _; omega)
          · intro c15
            have k16 := y_nlel (n := 1000) rfl c15
            refine ⟨?_, ?_⟩
            · exact vpi (by omega) (by omega)
            · have w17 : WT (uI m (5 + 2) x4.toNatClampNeg x6) := w.n rfl
              have f17 : Fx (RS [14]) m0 (uI m (5 + 2) x4.toNatClampNeg x6) := f.i rfl
              have t18 := ti_addc (x := x4) (y := (1 : Int32)) (c := 1) rfl (by omega)
              have t19 := ti_addc (x := x5) (y := (1 : Int32)) (c := 1) rfl (by omega)
              exact ih.1 _ _ _ _ _ w17 f17 (by show (0 : Int) ≤ ((x4 + (1 : Int32))).toInt; omega) (by show ((x4 + (1 : Int32))).toInt ≤ (40 : Int); omega) (by show (0 : Int) ≤ (x2).toInt; omega) (by show (x2).toInt ≤ (7 : Int); omega) (by show (0 : Int) ≤ (x3).toInt; omega) (by show (x3).toInt ≤ (4 : Int); omega) (by show (0 : Int) ≤ ((x5 + (1 : Int32))).toInt; omega) (by show ((x5 + (1 : Int32))).toInt ≤ (40 : Int); omega) (by show (40 - ((x5 + (1 : Int32))).toInt) * 4 + 3 < _; omega)
    · intro m x2 x3 x4 x5 x6 x7 w f j1 j2 j3 j4 j5 j6 j7 j8 hn
      refine g_X5_value_111 Ru_5 hb1.1 ?_
      refine ⟨?_, ?_⟩
      · intro c1
        have k2 := y_ner (n := 4) rfl c1
        exact ih.2.2.2 _ _ _ _ _ _ w f (by show (0 : Int) ≤ (x4).toInt; omega) (by show (x4).toInt ≤ (40 : Int); omega) (by show (0 : Int) ≤ (x2).toInt; omega) (by show (x2).toInt ≤ (7 : Int); omega) (by show (0 : Int) ≤ (x3).toInt; omega) (by show (x3).toInt ≤ (4 : Int); omega) (by show (0 : Int) ≤ (x5).toInt; omega) (by show (x5).toInt ≤ (39 : Int); omega) (by show (40 - (x5).toInt) * 4 < _; omega)
      · intro c3
        have k4 := y_eqr (n := 4) rfl c3
        refine ⟨?_, ?_⟩
        · intro c5
          have k6 := y_ler (n := 0) rfl c5
          exact ih.2.2.2 _ _ _ _ _ _ w f (by show (0 : Int) ≤ (x4).toInt; omega) (by show (x4).toInt ≤ (40 : Int); omega) (by show (0 : Int) ≤ (x2).toInt; omega) (by show (x2).toInt ≤ (7 : Int); omega) (by show (0 : Int) ≤ (x3).toInt; omega) (by show (x3).toInt ≤ (4 : Int); omega) (by show (0 : Int) ≤ (x5).toInt; omega) (by show (x5).toInt ≤ (39 : Int); omega) (by show (40 - (x5).toInt) * 4 < _; omega)
        · intro c7
          have k8 := y_nler (n := 0) rfl c7
          refine ⟨?_, ?_⟩
          · have t9 := ti_subc (x := x4) (y := (1 : Int32)) (c := 1) rfl (by omega)
            exact vpi (by omega) (by omega)
          · refine ⟨?_, ?_⟩
            · have t10 := ti_subc (x := x4) (y := (1 : Int32)) (c := 1) rfl (by omega)
              exact vpi (by omega) (by omega)
            · have w11 : WT (uI m (5 + 2) ((x4 - (1 : Int32)).toNatClampNeg) (-(m.1 (5 + 2) ((x4 - (1 : Int32)).toNatClampNeg)))) := w.n rfl
              have f11 : Fx (RS [14]) m0 (uI m (5 + 2) ((x4 - (1 : Int32)).toNatClampNeg) (-(m.1 (5 + 2) ((x4 - (1 : Int32)).toNatClampNeg)))) := f.i rfl
              have t12 := ti_addc (x := x5) (y := (1 : Int32)) (c := 1) rfl (by omega)
              exact ih.1 _ _ _ _ _ w11 f11 (by show (0 : Int) ≤ (x4).toInt; omega) (by show (x4).toInt ≤ (40 : Int); omega) (by show (0 : Int) ≤ (x2).toInt; omega) (by show (x2).toInt ≤ (7 : Int); omega) (by show (0 : Int) ≤ (x3).toInt; omega) (by show (x3).toInt ≤ (4 : Int); omega) (by show (0 : Int) ≤ ((x5 + (1 : Int32))).toInt; omega) (by show ((x5 + (1 : Int32))).toInt ≤ (40 : Int); omega) (by show (40 - ((x5 + (1 : Int32))).toInt) * 4 + 3 < _; omega)
    · intro m x2 x3 x4 x5 x6 w f j1 j2 j3 j4 j5 j6 j7 j8 hn
      refine g_X5_value_144 Ru_5 hb1.1 ?_
      refine ⟨?_, ?_⟩
      · intro c1
        have k2 := y_ler (n := 1) rfl c1
        have t3 := ti_addc (x := x5) (y := (1 : Int32)) (c := 1) rfl (by omega)
        exact ih.1 _ _ _ _ _ w f (by show (0 : Int) ≤ (x4).toInt; omega) (by show (x4).toInt ≤ (40 : Int); omega) (by show (0 : Int) ≤ (x2).toInt; omega) (by show (x2).toInt ≤ (7 : Int); omega) (by show (0 : Int) ≤ (x3).toInt; omega) (by show (x3).toInt ≤ (4 : Int); omega) (by show (0 : Int) ≤ ((x5 + (1 : Int32))).toInt; omega) (by show ((x5 + (1 : Int32))).toInt ≤ (40 : Int); omega) (by show (40 - ((x5 + (1 : Int32))).toInt) * 4 + 3 < _; omega)
      · intro c4
        have k5 := y_nler (n := 1) rfl c4
        refine ⟨?_, ?_⟩
        · have t6 := ti_addc (x := x4) (y := (-1 : Int32)) (c := -1) rfl (by omega)
          have t7 := ti_subc (x := (x4 + (-1 : Int32))) (y := (1 : Int32)) (c := 1) rfl (by omega)
          exact vpi (by omega) (by omega)
        · refine ⟨?_, ?_⟩
          · have t8 := ti_addc (x := x4) (y := (-1 : Int32)) (c := -1) rfl (by omega)
            exact vpi (by omega) (by omega)
          · refine (s_X5_joined w).to ?_
            rintro _ m1 ⟨w_m1, g9, v2, rfl⟩
            have f_m1 : Fx (RS [14]) m0 m1 := f.tr g9 (RS_sub rfl)
            refine ⟨v2, rfl, ?_⟩
            refine ⟨?_, ?_⟩
            · have t10 := ti_addc (x := x4) (y := (-1 : Int32)) (c := -1) rfl (by omega)
              have t11 := ti_subc (x := (x4 + (-1 : Int32))) (y := (1 : Int32)) (c := 1) rfl (by omega)
              exact vpi (by omega) (by omega)
            · have w12 : WT (uI m1 (5 + 2) (((x4 + (-1 : Int32)) - (1 : Int32)).toNatClampNeg) v2) := w_m1.n rfl
              have f12 : Fx (RS [14]) m0 (uI m1 (5 + 2) (((x4 + (-1 : Int32)) - (1 : Int32)).toNatClampNeg) v2) := f_m1.i rfl
              have t13 := ti_addc (x := x4) (y := (-1 : Int32)) (c := -1) rfl (by omega)
              have t14 := ti_addc (x := x5) (y := (1 : Int32)) (c := 1) rfl (by omega)
              exact ih.1 _ _ _ _ _ w12 f12 (by show (0 : Int) ≤ ((x4 + (-1 : Int32))).toInt; omega) (by show ((x4 + (-1 : Int32))).toInt ≤ (40 : Int); omega) (by show (0 : Int) ≤ (x2).toInt; omega) (by show (x2).toInt ≤ (7 : Int); omega) (by show (0 : Int) ≤ (x3).toInt; omega) (by show (x3).toInt ≤ (4 : Int); omega) (by show (0 : Int) ≤ ((x5 + (1 : Int32))).toInt; omega) (by show ((x5 + (1 : Int32))).toInt ≤ (40 : Int); omega) (by show (40 - ((x5 + (1 : Int32))).toInt) * 4 + 3 < _; omega)
set_option maxHeartbeats 4000000 in
theorem s_X5_value_5 {ad : Nat → Nat} {d : Nat} {m : Wm} {b1 ρ1 : Nat} {x2 x3 : Int32} (w : WT m) (hb1 : SS b1 ρ1) (i1 : (0 : Int) ≤ x2.toInt) (i2 : x2.toInt ≤ (7 : Int)) (i3 : (0 : Int) ≤ x3.toInt) (i4 : x3.toInt ≤ (4 : Int)) : Ct ad μX5_value (d + 3) [.ref (ad 5), .ref (ad b1), .int x2, .int x3] m (fun r m' => WT m' ∧ Fx (RS [14]) m m' ∧ ∃ v : Int32, r = some (.int v)) := by
  have f : Fx (RS [14]) m m := Fx.rf
  refine v_X5_value Ru_5 hb1.1 ?_
  refine ⟨?_, ?_⟩
  · intro c1
    have r2 := w.at (a := 5) (k := 4) rfl
    have k3 := y_ner (n := 0) rfl c1
    exact (l_X5_value_5 (m0 := m) hb1 1000000).1 _ _ _ _ _ w f (by show (0 : Int) ≤ (0 : Int); omega) (by show (0 : Int) ≤ (40 : Int); omega) (by show (0 : Int) ≤ (x2).toInt; omega) (by show (x2).toInt ≤ (7 : Int); omega) (by show (0 : Int) ≤ (x3).toInt; omega) (by show (x3).toInt ≤ (4 : Int); omega) (by show (0 : Int) ≤ (0 : Int); omega) (by show (0 : Int) ≤ (40 : Int); omega) (by show (40 - (0 : Int)) * 4 + 3 < _; omega)
  · intro c4
    have r5 := w.at (a := 5) (k := 4) rfl
    have k6 := y_eqr (n := 0) rfl c4
    refine (s_X8_sum w hb1 (by show (0 : Int) ≤ (x2).toInt; omega) (by show (x2).toInt ≤ (7 : Int); omega) (by show (0 : Int) ≤ (x3).toInt; omega) (by show (x3).toInt ≤ (4 : Int); omega)).to ?_
    rintro _ m1 ⟨w_m1, g7, v2, rfl⟩
    have f_m1 : Fx (RS [14]) m m1 := f.tr g7 (RS_sub rfl)
    refine ⟨v2, rfl, ?_⟩
    exact ⟨w_m1, f_m1, _, rfl⟩
set_option maxHeartbeats 4000000 in
theorem l_X5_value_10 {ad : Nat → Nat} {d : Nat} {m0 : Wm} {b1 ρ1 : Nat} (hb1 : SS b1 ρ1) : ∀ n : Nat, (∀ (m : Wm) (x2 x3 x4 x5 : Int32), WT m → Fx (RS [14]) m0 m → (0 : Int) ≤ x4.toInt → x4.toInt ≤ (40 : Int) → (0 : Int) ≤ x2.toInt → x2.toInt ≤ (7 : Int) → (0 : Int) ≤ x3.toInt → x3.toInt ≤ (4 : Int) → (0 : Int) ≤ x5.toInt → x5.toInt ≤ (40 : Int) → (40 - x5.toInt) * 4 + 3 < (n : Int) → AW ad E0 μX5_value (d + 3) (fun r m' => WT m' ∧ Fx (RS [14]) m0 m' ∧ ∃ v : Int32, r = some (.int v)) 20 [(0, .ref (ad 10)), (1, .ref (ad b1)), (2, .int x2), (3, .int x3), (4, .int x4), (5, .int x5)] [] m) ∧ (∀ (m : Wm) (x2 x3 x4 x5 x6 s0 : Int32), WT m → Fx (RS [14]) m0 m → (0 : Int) ≤ x4.toInt → x4.toInt ≤ (40 : Int) → (0 : Int) ≤ x2.toInt → x2.toInt ≤ (7 : Int) → (0 : Int) ≤ x3.toInt → x3.toInt ≤ (4 : Int) → (0 : Int) ≤ x5.toInt → x5.toInt ≤ (39 : Int) → (40 - x5.toInt) * 4 + 2 < (n : Int) → AW ad E0 μX5_value (d + 3) (fun r m' => WT m' ∧ Fx (RS [14]) m0 m' ∧ ∃ v : Int32, r = some (.int v)) 59 [(0, .ref (ad 10)), (1, .ref (ad b1)), (2, .int x2), (3, .int x3), (4, .int x4), (5, .int x5), (6, .int x6)] [.int s0] m) ∧ (∀ (m : Wm) (x2 x3 x4 x5 x6 x7 : Int32), WT m → Fx (RS [14]) m0 m → (0 : Int) ≤ x4.toInt → x4.toInt ≤ (40 : Int) → (0 : Int) ≤ x2.toInt → x2.toInt ≤ (7 : Int) → (0 : Int) ≤ x3.toInt → x3.toInt ≤ (4 : Int) → (0 : Int) ≤ x5.toInt → x5.toInt ≤ (39 : Int) → (40 - x5.toInt) * 4 + 1 < (n : Int) → AW ad E0 μX5_value (d + 3) (fun r m' => WT m' ∧ Fx (RS [14]) m0 m' ∧ ∃ v : Int32, r = some (.int v)) 111 [(0, .ref (ad 10)), (1, .ref (ad b1)), (2, .int x2), (3, .int x3), (4, .int x4), (5, .int x5), (6, .int x6), (7, .int x7)] [] m) ∧ (∀ (m : Wm) (x2 x3 x4 x5 x6 : Int32), WT m → Fx (RS [14]) m0 m → (0 : Int) ≤ x4.toInt → x4.toInt ≤ (40 : Int) → (0 : Int) ≤ x2.toInt → x2.toInt ≤ (7 : Int) → (0 : Int) ≤ x3.toInt → x3.toInt ≤ (4 : Int) → (0 : Int) ≤ x5.toInt → x5.toInt ≤ (39 : Int) → (40 - x5.toInt) * 4 < (n : Int) → AW ad E0 μX5_value (d + 3) (fun r m' => WT m' ∧ Fx (RS [14]) m0 m' ∧ ∃ v : Int32, r = some (.int v)) 144 [(0, .ref (ad 10)), (1, .ref (ad b1)), (2, .int x2), (3, .int x3), (4, .int x4), (5, .int x5), (6, .int x6)] [] m) := by
  intro n
  induction n with
  | zero =>
    refine ⟨?_, ?_, ?_, ?_⟩ <;> intros <;> exfalso <;> omega
  | succ n ih =>
    refine ⟨?_, ?_, ?_, ?_⟩
    · intro m x2 x3 x4 x5 w f j1 j2 j3 j4 j5 j6 j7 j8 hn
      refine g_X5_value_20 Ru_10 hb1.1 ?_
      refine ⟨?_, ?_⟩
      · intro c1
        have r2 := w.at (a := 10) (k := 4) rfl
        have k3 := z_le c1
        refine (s_X11_clamp w).to ?_
        rintro _ m1 ⟨w_m1, g4, v2, rfl, p5⟩
        have f_m1 : Fx (RS [14]) m0 m1 := f.tr g4 (RS_sub rfl)
        have p6 : (9999 : Int) < (-9999 : Int) ∨ ((-9999 : Int) ≤ v2.toInt ∧ v2.toInt ≤ (9999 : Int)) := p5
        clear p5
        refine ⟨v2, rfl, ?_⟩
        exact ⟨w_m1, f_m1, _, rfl⟩
      · intro c7
        have r8 := w.at (a := 10) (k := 4) rfl
        have k9 := z_nle c7
        refine ⟨?_, ?_⟩
        · exact vpi (by omega) (by omega)
        · refine ⟨?_, ?_⟩
          · intro c10
            have k11 := y_lel (n := 1000) rfl c10
            refine (s_X5_rank w).to ?_
            rintro _ m3 ⟨w_m3, g12, v4, rfl, p13, p14⟩
            have f_m3 : Fx (RS [14]) m0 m3 := f.tr g12 (RS_sub rfl)
            refine ⟨v4, rfl, ?_⟩
            exact ih.2.1 _ _ _ _ _ _ _ w_m3 f_m3 (by show (0 : Int) ≤ (x4).toInt; omega) (by show (x4).toInt ≤ (40 : Int); omega) (by show (0 : Int) ≤ (x2).toInt; omega) (by show (x2).toInt ≤ (7 : Int); omega) (by show (0 : Int) ≤ (x3).toInt; omega) (by show (x3).toInt ≤ (4 : Int); omega) (by show (0 : Int) ≤ (x5).toInt; omega) (by show (x5).toInt ≤ (39 : Int); omega) (by show (40 - (x5).toInt) * 4 + 2 < _; omega)
          · intro c15
            have k16 := y_nlel (n := 1000) rfl c15
            exact ih.2.1 _ _ _ _ _ _ _ w f (by show (0 : Int) ≤ (x4).toInt; omega) (by show (x4).toInt ≤ (40 : Int); omega) (by show (0 : Int) ≤ (x2).toInt; omega) (by show (x2).toInt ≤ (7 : Int); omega) (by show (0 : Int) ≤ (x3).toInt; omega) (by show (x3).toInt ≤ (4 : Int); omega) (by show (0 : Int) ≤ (x5).toInt; omega) (by show (x5).toInt ≤ (39 : Int); omega) (by show (40 - (x5).toInt) * 4 + 2 < _; omega)
    · intro m x2 x3 x4 x5 x6 s0 w f j1 j2 j3 j4 j5 j6 j7 j8 hn
      refine g_X5_value_59 Ru_10 hb1.1 ?_
      refine ⟨?_, ?_⟩
      · intro c1
        have k2 := y_ner (n := 0) rfl c1
        exact ih.2.2.1 _ _ _ _ _ _ _ w f (by show (0 : Int) ≤ (x4).toInt; omega) (by show (x4).toInt ≤ (40 : Int); omega) (by show (0 : Int) ≤ (x2).toInt; omega) (by show (x2).toInt ≤ (7 : Int); omega) (by show (0 : Int) ≤ (x3).toInt; omega) (by show (x3).toInt ≤ (4 : Int); omega) (by show (0 : Int) ≤ (x5).toInt; omega) (by show (x5).toInt ≤ (39 : Int); omega) (by show (40 - (x5).toInt) * 4 + 1 < _; omega)
      · intro c3
        have k4 := y_eqr (n := 0) rfl c3
        refine ⟨?_, ?_⟩
        · intro c5
          have k6 := y_lel (n := 40) rfl c5
          exact ih.2.2.1 _ _ _ _ _ _ _ w f (by show (0 : Int) ≤ (x4).toInt; omega) (by show (x4).toInt ≤ (40 : Int); omega) (by show (0 : Int) ≤ (x2).toInt; omega) (by show (x2).toInt ≤ (7 : Int); omega) (by show (0 : Int) ≤ (x3).toInt; omega) (by show (x3).toInt ≤ (4 : Int); omega) (by show (0 : Int) ≤ (x5).toInt; omega) (by show (x5).toInt ≤ (39 : Int); omega) (by show (40 - (x5).toInt) * 4 + 1 < _; omega)
        · intro c7
          have k8 := y_nlel (n := 40) rfl c7
          refine ⟨?_, ?_⟩
          · intro c9
            have k10 := y_lel (n := 1000) rfl c9
            refine (s_X5_thing w hb1 (by show (0 : Int) ≤ (x2).toInt; omega) (by show (x2).toInt ≤ (7 : Int); omega) (by show (0 : Int) ≤ (x3).toInt; omega) (by show (x3).toInt ≤ (4 : Int); omega)).to ?_
            rintro _ m1 ⟨w_m1, g11, v2, rfl⟩
            have f_m1 : Fx (RS [14]) m0 m1 := f.tr g11 (RS_sub rfl)
            refine ⟨v2, rfl, ?_⟩
            refine ⟨?_, ?_⟩
            · exact vpi (by omega) (by omega)
            · have w12 : WT (uI m1 (10 + 2) x4.toNatClampNeg v2) := w_m1.n rfl
              have f12 : Fx (RS [14]) m0 (uI m1 (10 + 2) x4.toNatClampNeg v2) := f_m1.i rfl
              have t13 := ti_addc (x := x4) (y := (1 : Int32)) (c := 1) rfl (by omega)
              have t14 := ti_addc (x := x5) (y := (1 : Int32)) (c := 1) rfl (by omega)
              exact ih.1 _ _ _ _ _ w12 f12 (by show (0 : Int) ≤ ((x4 + (1 : Int32))).toInt; omega) (by show ((x4 + (1 : Int32))).toInt ≤ (40 : Int); omega) (by show (0 : Int) ≤ (x2).toInt; omega) (by show (x2).toInt ≤ (7 : Int); omega) (by show (0 : Int) ≤ (x3).toInt; omega) (by show (x3).toInt ≤ (4 : Int); omega) (by show (0 : Int) ≤ ((x5 + (1 : Int32))).toInt; omega) (by show ((x5 + (1 : Int32))).toInt ≤ (40 : Int); omega) (by show (40 - ((x5 + (1 : Int32))).toInt) * 4 + 3 < _; omega)
          · intro c15
            have k16 := y_nlel (n := 1000) rfl c15
            refine ⟨?_, ?_⟩
            · exact vpi (by omega) (by omega)
            · have w17 : WT (uI m (10 + 2) x4.toNatClampNeg x6) := w.n rfl
              have f17 : Fx (RS [14]) m0 (uI m (10 + 2) x4.toNatClampNeg x6) := f.i rfl
              have t18 := ti_addc (x := x4) (y := (1 : Int32)) (c := 1) rfl (by omega)
              have t19 := ti_addc (x := x5) (y := (1 : Int32)) (c := 1) rfl (by omega)
              exact ih.1 _ _ _ _ _ w17 f17 (by show (0 : Int) ≤ ((x4 + (1 : Int32))).toInt; omega) (by show ((x4 + (1 : Int32))).toInt ≤ (40 : Int); omega) (by show (0 : Int) ≤ (x2).toInt; omega) (by show (x2).toInt ≤ (7 : Int); omega) (by show (0 : Int) ≤ (x3).toInt; omega) (by show (x3).toInt ≤ (4 : Int); omega) (by show (0 : Int) ≤ ((x5 + (1 : Int32))).toInt; omega) (by show ((x5 + (1 : Int32))).toInt ≤ (40 : Int); omega) (by show (40 - ((x5 + (1 : Int32))).toInt) * 4 + 3 < _; omega)
    · intro m x2 x3 x4 x5 x6 x7 w f j1 j2 j3 j4 j5 j6 j7 j8 hn
      refine g_X5_value_111 Ru_10 hb1.1 ?_
      refine ⟨?_, ?_⟩
      · intro c1
        have k2 := y_ner (n := 4) rfl c1
        exact ih.2.2.2 _ _ _ _ _ _ w f (by show (0 : Int) ≤ (x4).toInt; omega) (by show (x4).toInt ≤ (40 : Int); omega) (by show (0 : Int) ≤ (x2).toInt; omega) (by show (x2).toInt ≤ (7 : Int); omega) (by show (0 : Int) ≤ (x3).toInt; omega) (by show (x3).toInt ≤ (4 : Int); omega) (by show (0 : Int) ≤ (x5).toInt; omega) (by show (x5).toInt ≤ (39 : Int); omega) (by show (40 - (x5).toInt) * 4 < _; omega)
      · intro c3
        have k4 := y_eqr (n := 4) rfl c3
        refine ⟨?_, ?_⟩
        · intro c5
          have k6 := y_ler (n := 0) rfl c5
          exact ih.2.2.2 _ _ _ _ _ _ w f (by show (0 : Int) ≤ (x4).toInt; omega) (by show (x4).toInt ≤ (40 : Int); omega) (by show (0 : Int) ≤ (x2).toInt; omega) (by show (x2).toInt ≤ (7 : Int); omega) (by show (0 : Int) ≤ (x3).toInt; omega) (by show (x3).toInt ≤ (4 : Int); omega) (by show (0 : Int) ≤ (x5).toInt; omega) (by show (x5).toInt ≤ (39 : Int); omega) (by show (40 - (x5).toInt) * 4 < _; omega)
        · intro c7
          have k8 := y_nler (n := 0) rfl c7
          refine ⟨?_, ?_⟩
          · have t9 := ti_subc (x := x4) (y := (1 : Int32)) (c := 1) rfl (by omega)
            exact vpi (by omega) (by omega)
          · refine ⟨?_, ?_⟩
            · have t10 := ti_subc (x := x4) (y := (1 : Int32)) (c := 1) rfl (by omega)
              exact vpi (by omega) (by omega)
            · have w11 : WT (uI m (10 + 2) ((x4 - (1 : Int32)).toNatClampNeg) (-(m.1 (10 + 2) ((x4 - (1 : Int32)).toNatClampNeg)))) := w.n rfl
              have f11 : Fx (RS [14]) m0 (uI m (10 + 2) ((x4 - (1 : Int32)).toNatClampNeg) (-(m.1 (10 + 2) ((x4 - (1 : Int32)).toNatClampNeg)))) := f.i rfl
              have t12 := ti_addc (x := x5) (y := (1 : Int32)) (c := 1) rfl (by omega)
              exact ih.1 _ _ _ _ _ w11 f11 (by show (0 : Int) ≤ (x4).toInt; omega) (by show (x4).toInt ≤ (40 : Int); omega) (by show (0 : Int) ≤ (x2).toInt; omega) (by show (x2).toInt ≤ (7 : Int); omega) (by show (0 : Int) ≤ (x3).toInt; omega) (by show (x3).toInt ≤ (4 : Int); omega) (by show (0 : Int) ≤ ((x5 + (1 : Int32))).toInt; omega) (by show ((x5 + (1 : Int32))).toInt ≤ (40 : Int); omega) (by show (40 - ((x5 + (1 : Int32))).toInt) * 4 + 3 < _; omega)
    · intro m x2 x3 x4 x5 x6 w f j1 j2 j3 j4 j5 j6 j7 j8 hn
      refine g_X5_value_144 Ru_10 hb1.1 ?_
      refine ⟨?_, ?_⟩
      · intro c1
        have k2 := y_ler (n := 1) rfl c1
        have t3 := ti_addc (x := x5) (y := (1 : Int32)) (c := 1) rfl (by omega)
        exact ih.1 _ _ _ _ _ w f (by show (0 : Int) ≤ (x4).toInt; omega) (by show (x4).toInt ≤ (40 : Int); omega) (by show (0 : Int) ≤ (x2).toInt; omega) (by show (x2).toInt ≤ (7 : Int); omega) (by show (0 : Int) ≤ (x3).toInt; omega) (by show (x3).toInt ≤ (4 : Int); omega) (by show (0 : Int) ≤ ((x5 + (1 : Int32))).toInt; omega) (by show ((x5 + (1 : Int32))).toInt ≤ (40 : Int); omega) (by show (40 - ((x5 + (1 : Int32))).toInt) * 4 + 3 < _; omega)
      · intro c4
        have k5 := y_nler (n := 1) rfl c4
        refine ⟨?_, ?_⟩
        · have t6 := ti_addc (x := x4) (y := (-1 : Int32)) (c := -1) rfl (by omega)
          have t7 := ti_subc (x := (x4 + (-1 : Int32))) (y := (1 : Int32)) (c := 1) rfl (by omega)
          exact vpi (by omega) (by omega)
        · refine ⟨?_, ?_⟩
          · have t8 := ti_addc (x := x4) (y := (-1 : Int32)) (c := -1) rfl (by omega)
            exact vpi (by omega) (by omega)
          · refine (s_X5_joined w).to ?_
            rintro _ m1 ⟨w_m1, g9, v2, rfl⟩
            have f_m1 : Fx (RS [14]) m0 m1 := f.tr g9 (RS_sub rfl)
            refine ⟨v2, rfl, ?_⟩
            refine ⟨?_, ?_⟩
            · have t10 := ti_addc (x := x4) (y := (-1 : Int32)) (c := -1) rfl (by omega)
              have t11 := ti_subc (x := (x4 + (-1 : Int32))) (y := (1 : Int32)) (c := 1) rfl (by omega)
              exact vpi (by omega) (by omega)
            · have w12 : WT (uI m1 (10 + 2) (((x4 + (-1 : Int32)) - (1 : Int32)).toNatClampNeg) v2) := w_m1.n rfl
              have f12 : Fx (RS [14]) m0 (uI m1 (10 + 2) (((x4 + (-1 : Int32)) - (1 : Int32)).toNatClampNeg) v2) := f_m1.i rfl
              have t13 := ti_addc (x := x4) (y := (-1 : Int32)) (c := -1) rfl (by omega)
              have t14 := ti_addc (x := x5) (y := (1 : Int32)) (c := 1) rfl (by omega)
              exact ih.1 _ _ _ _ _ w12 f12 (by show (0 : Int) ≤ ((x4 + (-1 : Int32))).toInt; omega) (by show ((x4 + (-1 : Int32))).toInt ≤ (40 : Int); omega) (by show (0 : Int) ≤ (x2).toInt; omega) (by show (x2).toInt ≤ (7 : Int); omega) (by show (0 : Int) ≤ (x3).toInt; omega) (by show (x3).toInt ≤ (4 : Int); omega) (by show (0 : Int) ≤ ((x5 + (1 : Int32))).toInt; omega) (by show ((x5 + (1 : Int32))).toInt ≤ (40 : Int); omega) (by show (40 - ((x5 + (1 : Int32))).toInt) * 4 + 3 < _; omega)
set_option maxHeartbeats 4000000 in
theorem s_X5_value_10 {ad : Nat → Nat} {d : Nat} {m : Wm} {b1 ρ1 : Nat} {x2 x3 : Int32} (w : WT m) (hb1 : SS b1 ρ1) (i1 : (0 : Int) ≤ x2.toInt) (i2 : x2.toInt ≤ (7 : Int)) (i3 : (0 : Int) ≤ x3.toInt) (i4 : x3.toInt ≤ (4 : Int)) : Ct ad μX5_value (d + 3) [.ref (ad 10), .ref (ad b1), .int x2, .int x3] m (fun r m' => WT m' ∧ Fx (RS [14]) m m' ∧ ∃ v : Int32, r = some (.int v)) := by
  have f : Fx (RS [14]) m m := Fx.rf
  refine v_X5_value Ru_10 hb1.1 ?_
  refine ⟨?_, ?_⟩
  · intro c1
    have r2 := w.at (a := 10) (k := 4) rfl
    have k3 := y_ner (n := 0) rfl c1
    exact (l_X5_value_10 (m0 := m) hb1 1000000).1 _ _ _ _ _ w f (by show (0 : Int) ≤ (0 : Int); omega) (by show (0 : Int) ≤ (40 : Int); omega) (by show (0 : Int) ≤ (x2).toInt; omega) (by show (x2).toInt ≤ (7 : Int); omega) (by show (0 : Int) ≤ (x3).toInt; omega) (by show (x3).toInt ≤ (4 : Int); omega) (by show (0 : Int) ≤ (0 : Int); omega) (by show (0 : Int) ≤ (40 : Int); omega) (by show (40 - (0 : Int)) * 4 + 3 < _; omega)
  · intro c4
    have r5 := w.at (a := 10) (k := 4) rfl
    have k6 := y_eqr (n := 0) rfl c4
    refine (s_X8_sum w hb1 (by show (0 : Int) ≤ (x2).toInt; omega) (by show (x2).toInt ≤ (7 : Int); omega) (by show (0 : Int) ≤ (x3).toInt; omega) (by show (x3).toInt ≤ (4 : Int); omega)).to ?_
    rintro _ m1 ⟨w_m1, g7, v2, rfl⟩
    have f_m1 : Fx (RS [14]) m m1 := f.tr g7 (RS_sub rfl)
    refine ⟨v2, rfl, ?_⟩
    exact ⟨w_m1, f_m1, _, rfl⟩
theorem s_X5_value {ad : Nat → Nat} {d : Nat} {m : Wm} {b0 b1 ρ1 : Nat} {x2 x3 : Int32} (w : WT m) (hb0 : b0 = 5 ∨ b0 = 10) (hb1 : SS b1 ρ1) (i1 : (0 : Int) ≤ x2.toInt) (i2 : x2.toInt ≤ (7 : Int)) (i3 : (0 : Int) ≤ x3.toInt) (i4 : x3.toInt ≤ (4 : Int)) : Ct ad μX5_value (d + 3) [.ref (ad b0), .ref (ad b1), .int x2, .int x3] m (fun r m' => WT m' ∧ Fx (RS [14]) m m' ∧ ∃ v : Int32, r = some (.int v)) := by
  rcases hb0 with rfl | rfl
  · exact s_X5_value_5 w hb1 i1 i2 i3 i4
  · exact s_X5_value_10 w hb1 i1 i2 i3 i4
set_option maxHeartbeats 4000000 in
theorem s_X1_power {ad : Nat → Nat} {d : Nat} {m : Wm} {b1 ρ1 : Nat} {x2 : Int32} (w : WT m) (hb1 : SS b1 ρ1) (i1 : (0 : Int) ≤ x2.toInt) (i2 : x2.toInt ≤ (7 : Int)) : Ct ad μX1_power (d + 4) [.ref (ad 3), .ref (ad b1), .int x2] m (fun r m' => WT m' ∧ Fx (RS [14]) m m' ∧ ∃ v : Int32, r = some (.int v)) := by
  have f : Fx (RS [14]) m m := Fx.rf
  refine v_X1_power hb1.1 ?_
  obtain ⟨r1, e1, q2⟩ := w.r31
  refine ⟨r1, e1, Ru_of q2, ?_⟩
  have r3 := w.at (a := 3) (k := 4) rfl
  refine (s_X5_value w q2 hb1 (by show (0 : Int) ≤ (x2).toInt; omega) (by show (x2).toInt ≤ (7 : Int); omega) (by show (0 : Int) ≤ ((m.1 3 4)).toInt; omega) (by show ((m.1 3 4)).toInt ≤ (4 : Int); omega)).to ?_
  rintro _ m2 ⟨w_m2, g4, v3, rfl⟩
  have f_m2 : Fx (RS [14]) m m2 := f.tr g4 (RS_sub rfl)
  refine ⟨v3, rfl, ?_⟩
  exact ⟨w_m2, f_m2, _, rfl⟩
set_option maxHeartbeats 4000000 in
theorem l_X1_strongest {ad : Nat → Nat} {d : Nat} {m0 : Wm} {b1 ρ1 : Nat} (hb1 : SS b1 ρ1) : ∀ n : Nat, (∀ (m : Wm) (x2 x3 x4 : Int32), WT m → Fx (RS [14]) m0 m → (0 : Int) ≤ x2.toInt → x2.toInt ≤ (7 : Int) → (0 : Int) ≤ x4.toInt → x4.toInt ≤ (8 : Int) → 8 - x4.toInt < (n : Int) → AW ad E0 μX1_strongest (d + 5) (fun r m' => WT m' ∧ Fx (RS [14]) m0 m' ∧ ∃ v : Int32, r = some (.int v) ∧ (0 : Int) ≤ v.toInt ∧ v.toInt ≤ 7) 7 [(0, .ref (ad 3)), (1, .ref (ad b1)), (2, .int x2), (3, .int x3), (4, .int x4)] [] m) := by
  intro n
  induction n with
  | zero =>
    intros
    exfalso
    omega
  | succ n ih =>
    intro m x2 x3 x4 w f j1 j2 j3 j4 hn
    refine g_X1_strongest_7 hb1.1 ?_
    refine ⟨?_, ?_⟩
    · intro c1
      have r2 := w.at (a := 3) (k := 3) rfl
      have k3 := z_le c1
      exact ⟨w, f, _, rfl, (by show (0 : Int) ≤ (x2).toInt; omega), (by show (x2).toInt ≤ (7 : Int); omega)⟩
    · intro c4
      have r5 := w.at (a := 3) (k := 3) rfl
      have k6 := z_nle c4
      refine (s_X1_power w hb1 (by show (0 : Int) ≤ (x4).toInt; omega) (by show (x4).toInt ≤ (7 : Int); omega)).to ?_
      rintro _ m1 ⟨w_m1, g7, v2, rfl⟩
      have f_m1 : Fx (RS [14]) m0 m1 := f.tr g7 (RS_sub rfl)
      refine ⟨v2, rfl, ?_⟩
      refine ⟨?_, ?_⟩
      · intro c8
        have k9 := y_eqr (n := 0) rfl c8
        have t10 := ti_addc (x := x4) (y := (1 : Int32)) (c := 1) rfl (by omega)
        exact ih _ _ _ _ w_m1 f_m1 (by show (0 : Int) ≤ (x4).toInt; omega) (by show (x4).toInt ≤ (7 : Int); omega) (by show (0 : Int) ≤ ((x4 + (1 : Int32))).toInt; omega) (by show ((x4 + (1 : Int32))).toInt ≤ (8 : Int); omega) (by show 8 - ((x4 + (1 : Int32))).toInt < _; omega)
      · intro c11
        have k12 := y_ner (n := 0) rfl c11
        refine ⟨?_, ?_⟩
        · intro c13
          have k14 := z_le c13
          have t15 := ti_addc (x := x4) (y := (1 : Int32)) (c := 1) rfl (by omega)
          exact ih _ _ _ _ w_m1 f_m1 (by show (0 : Int) ≤ (x2).toInt; omega) (by show (x2).toInt ≤ (7 : Int); omega) (by show (0 : Int) ≤ ((x4 + (1 : Int32))).toInt; omega) (by show ((x4 + (1 : Int32))).toInt ≤ (8 : Int); omega) (by show 8 - ((x4 + (1 : Int32))).toInt < _; omega)
        · intro c16
          have k17 := z_nle c16
          have t18 := ti_addc (x := x4) (y := (1 : Int32)) (c := 1) rfl (by omega)
          exact ih _ _ _ _ w_m1 f_m1 (by show (0 : Int) ≤ (x4).toInt; omega) (by show (x4).toInt ≤ (7 : Int); omega) (by show (0 : Int) ≤ ((x4 + (1 : Int32))).toInt; omega) (by show ((x4 + (1 : Int32))).toInt ≤ (8 : Int); omega) (by show 8 - ((x4 + (1 : Int32))).toInt < _; omega)
set_option maxHeartbeats 4000000 in
theorem s_X1_strongest {ad : Nat → Nat} {d : Nat} {m : Wm} {b1 ρ1 : Nat} (w : WT m) (hb1 : SS b1 ρ1) : Ct ad μX1_strongest (d + 5) [.ref (ad 3), .ref (ad b1)] m (fun r m' => WT m' ∧ Fx (RS [14]) m m' ∧ ∃ v : Int32, r = some (.int v) ∧ (0 : Int) ≤ v.toInt ∧ v.toInt ≤ 7) := by
  have f : Fx (RS [14]) m m := Fx.rf
  refine v_X1_strongest hb1.1 ?_
  exact (l_X1_strongest (m0 := m) hb1 1000000) _ _ _ _ w f (by show (0 : Int) ≤ (0 : Int); omega) (by show (0 : Int) ≤ (7 : Int); omega) (by show (0 : Int) ≤ (0 : Int); omega) (by show (0 : Int) ≤ (8 : Int); omega) (by show 8 - (0 : Int) < _; omega)
set_option maxHeartbeats 4000000 in
theorem l_X1_weakest {ad : Nat → Nat} {d : Nat} {m0 : Wm} {b1 ρ1 : Nat} (hb1 : SS b1 ρ1) : ∀ n : Nat, (∀ (m : Wm) (x2 x3 x4 : Int32), WT m → Fx (RS [14]) m0 m → (0 : Int) ≤ x2.toInt → x2.toInt ≤ (7 : Int) → (0 : Int) ≤ x4.toInt → x4.toInt ≤ (8 : Int) → 8 - x4.toInt < (n : Int) → AW ad E0 μX1_weakest (d + 5) (fun r m' => WT m' ∧ Fx (RS [14]) m0 m' ∧ ∃ v : Int32, r = some (.int v) ∧ (0 : Int) ≤ v.toInt ∧ v.toInt ≤ 7) 7 [(0, .ref (ad 3)), (1, .ref (ad b1)), (2, .int x2), (3, .int x3), (4, .int x4)] [] m) := by
  intro n
  induction n with
  | zero =>
    intros
    exfalso
    omega
  | succ n ih =>
    intro m x2 x3 x4 w f j1 j2 j3 j4 hn
    refine g_X1_weakest_7 hb1.1 ?_
    refine ⟨?_, ?_⟩
    · intro c1
      have r2 := w.at (a := 3) (k := 3) rfl
      have k3 := z_le c1
      exact ⟨w, f, _, rfl, (by show (0 : Int) ≤ (x2).toInt; omega), (by show (x2).toInt ≤ (7 : Int); omega)⟩
    · intro c4
      have r5 := w.at (a := 3) (k := 3) rfl
      have k6 := z_nle c4
      refine (s_X1_power w hb1 (by show (0 : Int) ≤ (x4).toInt; omega) (by show (x4).toInt ≤ (7 : Int); omega)).to ?_
      rintro _ m1 ⟨w_m1, g7, v2, rfl⟩
      have f_m1 : Fx (RS [14]) m0 m1 := f.tr g7 (RS_sub rfl)
      refine ⟨v2, rfl, ?_⟩
      refine ⟨?_, ?_⟩
      · intro c8
        have k9 := y_eqr (n := 0) rfl c8
        have t10 := ti_addc (x := x4) (y := (1 : Int32)) (c := 1) rfl (by omega)
        exact ih _ _ _ _ w_m1 f_m1 (by show (0 : Int) ≤ (x4).toInt; omega) (by show (x4).toInt ≤ (7 : Int); omega) (by show (0 : Int) ≤ ((x4 + (1 : Int32))).toInt; omega) (by show ((x4 + (1 : Int32))).toInt ≤ (8 : Int); omega) (by show 8 - ((x4 + (1 : Int32))).toInt < _; omega)
      · intro c11
        have k12 := y_ner (n := 0) rfl c11
        refine ⟨?_, ?_⟩
        · intro c13
          have k14 := z_le c13
          have t15 := ti_addc (x := x4) (y := (1 : Int32)) (c := 1) rfl (by omega)
          exact ih _ _ _ _ w_m1 f_m1 (by show (0 : Int) ≤ (x2).toInt; omega) (by show (x2).toInt ≤ (7 : Int); omega) (by show (0 : Int) ≤ ((x4 + (1 : Int32))).toInt; omega) (by show ((x4 + (1 : Int32))).toInt ≤ (8 : Int); omega) (by show 8 - ((x4 + (1 : Int32))).toInt < _; omega)
        · intro c16
          have k17 := z_nle c16
          have t18 := ti_addc (x := x4) (y := (1 : Int32)) (c := 1) rfl (by omega)
          exact ih _ _ _ _ w_m1 f_m1 (by show (0 : Int) ≤ (x4).toInt; omega) (by show (x4).toInt ≤ (7 : Int); omega) (by show (0 : Int) ≤ ((x4 + (1 : Int32))).toInt; omega) (by show ((x4 + (1 : Int32))).toInt ≤ (8 : Int); omega) (by show 8 - ((x4 + (1 : Int32))).toInt < _; omega)
set_option maxHeartbeats 4000000 in
theorem s_X1_weakest {ad : Nat → Nat} {d : Nat} {m : Wm} {b1 ρ1 : Nat} (w : WT m) (hb1 : SS b1 ρ1) : Ct ad μX1_weakest (d + 5) [.ref (ad 3), .ref (ad b1)] m (fun r m' => WT m' ∧ Fx (RS [14]) m m' ∧ ∃ v : Int32, r = some (.int v) ∧ (0 : Int) ≤ v.toInt ∧ v.toInt ≤ 7) := by
  have f : Fx (RS [14]) m m := Fx.rf
  refine v_X1_weakest hb1.1 ?_
  exact (l_X1_weakest (m0 := m) hb1 1000000) _ _ _ _ w f (by show (0 : Int) ≤ (0 : Int); omega) (by show (0 : Int) ≤ (7 : Int); omega) (by show (0 : Int) ≤ (0 : Int); omega) (by show (0 : Int) ≤ (8 : Int); omega) (by show 8 - (0 : Int) < _; omega)
set_option maxHeartbeats 4000000 in
theorem l_X1_total {ad : Nat → Nat} {d : Nat} {m0 : Wm} {b1 ρ1 : Nat} (hb1 : SS b1 ρ1) : ∀ n : Nat, (∀ (m : Wm) (x2 x3 : Int32), WT m → Fx (RS []) m0 m → (0 : Int) ≤ x3.toInt → x3.toInt ≤ (8 : Int) → 8 - x3.toInt < (n : Int) → AW ad E0 μX1_total (d + 2) (fun r m' => WT m' ∧ Fx (RS []) m0 m' ∧ ∃ v : Int32, r = some (.int v)) 4 [(0, .ref (ad 3)), (1, .ref (ad b1)), (2, .int x2), (3, .int x3)] [] m) := by
  intro n
  induction n with
  | zero =>
    intros
    exfalso
    omega
  | succ n ih =>
    intro m x2 x3 w f j1 j2 hn
    refine g_X1_total_4 hb1.1 ?_
    refine ⟨?_, ?_⟩
    · intro c1
      have r2 := w.at (a := 3) (k := 3) rfl
      have k3 := z_le c1
      exact ⟨w, f, _, rfl⟩
    · intro c4
      have r5 := w.at (a := 3) (k := 3) rfl
      have k6 := z_nle c4
      have r7 := w.at (a := 3) (k := 4) rfl
      refine (s_X8_sum w hb1 (by show (0 : Int) ≤ (x3).toInt; omega) (by show (x3).toInt ≤ (7 : Int); omega) (by show (0 : Int) ≤ ((m.1 3 4)).toInt; omega) (by show ((m.1 3 4)).toInt ≤ (4 : Int); omega)).to ?_
      rintro _ m1 ⟨w_m1, g8, v2, rfl⟩
      have f_m1 : Fx (RS []) m0 m1 := f.tr g8 (RS_sub rfl)
      refine ⟨v2, rfl, ?_⟩
      have t9 := ti_addc (x := x3) (y := (1 : Int32)) (c := 1) rfl (by omega)
      exact ih _ _ _ w_m1 f_m1 (by show (0 : Int) ≤ ((x3 + (1 : Int32))).toInt; omega) (by show ((x3 + (1 : Int32))).toInt ≤ (8 : Int); omega) (by show 8 - ((x3 + (1 : Int32))).toInt < _; omega)
set_option maxHeartbeats 4000000 in
theorem s_X1_total {ad : Nat → Nat} {d : Nat} {m : Wm} {b1 ρ1 : Nat} (w : WT m) (hb1 : SS b1 ρ1) : Ct ad μX1_total (d + 2) [.ref (ad 3), .ref (ad b1)] m (fun r m' => WT m' ∧ Fx (RS []) m m' ∧ ∃ v : Int32, r = some (.int v)) := by
  have f : Fx (RS []) m m := Fx.rf
  refine v_X1_total hb1.1 ?_
  exact (l_X1_total (m0 := m) hb1 1000000) _ _ _ w f (by show (0 : Int) ≤ (0 : Int); omega) (by show (0 : Int) ≤ (8 : Int); omega) (by show 8 - (0 : Int) < _; omega)
set_option maxHeartbeats 4000000 in
theorem s_X1_resultOf {ad : Nat → Nat} {d : Nat} {m : Wm} {x1 : Int32} (w : WT m) : Ct ad μX1_resultOf d [.ref (ad 3), .int x1] m (fun r m' => WT m' ∧ Fx (RS []) m m' ∧ ∃ v : Int32, r = some (.int v) ∧ (0 : Int) ≤ v.toInt ∧ v.toInt ≤ 2) := by
  have f : Fx (RS []) m m := Fx.rf
  refine v_X1_resultOf  ?_
  refine ⟨?_, ?_⟩
  · intro c1
    have k2 := z_le c1
    refine ⟨?_, ?_⟩
    · intro c3
      have k4 := z_le c3
      exact ⟨w, f, _, rfl, (by show (0 : Int) ≤ (2 : Int); omega), (by show (2 : Int) ≤ (2 : Int); omega)⟩
    · intro c5
      have k6 := z_nle c5
      exact ⟨w, f, _, rfl, (by show (0 : Int) ≤ (1 : Int); omega), (by show (1 : Int) ≤ (2 : Int); omega)⟩
  · intro c7
    have k8 := z_nle c7
    exact ⟨w, f, _, rfl, (by show (0 : Int) ≤ (0 : Int); omega), (by show (0 : Int) ≤ (2 : Int); omega)⟩
set_option maxHeartbeats 4000000 in
theorem s_X1_result {ad : Nat → Nat} {d : Nat} {m : Wm} {b1 ρ1 : Nat} {x2 x3 x4 : Int32} (w : WT m) (hb1 : SS b1 ρ1) (i1 : (0 : Int) ≤ x2.toInt) (i2 : x2.toInt ≤ (7 : Int)) (i3 : (0 : Int) ≤ x3.toInt) (i4 : x3.toInt ≤ (7 : Int)) : Ct ad μX1_result (d + 4) [.ref (ad 3), .ref (ad b1), .int x2, .int x3, .int x4] m (fun r m' => WT m' ∧ Fx (RS [14]) m m' ∧ ∃ v : Int32, r = some (.int v) ∧ (0 : Int) ≤ v.toInt ∧ v.toInt ≤ 2) := by
  have f : Fx (RS [14]) m m := Fx.rf
  refine v_X1_result hb1.1 ?_
  refine ⟨?_, ?_⟩
  · intro c1
    have k2 := y_ner (n := 3) rfl c1
    refine ⟨?_, ?_⟩
    · intro c3
      have k4 := y_eqr (n := 0) rfl c3
      obtain ⟨r1, e5, q6⟩ := w.r31
      refine ⟨r1, e5, Ru_of q6, ?_⟩
      have r7 := w.at (a := 3) (k := 4) rfl
      refine (s_X5_value w q6 hb1 (by show (0 : Int) ≤ (x2).toInt; omega) (by show (x2).toInt ≤ (7 : Int); omega) (by show (0 : Int) ≤ ((m.1 3 4)).toInt; omega) (by show ((m.1 3 4)).toInt ≤ (4 : Int); omega)).to ?_
      rintro _ m2 ⟨w_m2, g8, v3, rfl⟩
      have f_m2 : Fx (RS [14]) m m2 := f.tr g8 (RS_sub rfl)
      refine ⟨v3, rfl, ?_⟩
      obtain ⟨r4, e9, q10⟩ := w_m2.r31
      refine ⟨r4, e9, Ru_of q10, ?_⟩
      have r11 := w_m2.at (a := 3) (k := 4) rfl
      refine (s_X5_value w_m2 q10 hb1 (by show (0 : Int) ≤ (x3).toInt; omega) (by show (x3).toInt ≤ (7 : Int); omega) (by show (0 : Int) ≤ ((m2.1 3 4)).toInt; omega) (by show ((m2.1 3 4)).toInt ≤ (4 : Int); omega)).to ?_
      rintro _ m5 ⟨w_m5, g12, v6, rfl⟩
      have f_m5 : Fx (RS [14]) m m5 := f_m2.tr g12 (RS_sub rfl)
      refine ⟨v6, rfl, ?_⟩
      refine (s_X1_resultOf w_m5).to ?_
      rintro _ m7 ⟨w_m7, g13, v8, rfl, p14, p15⟩
      have f_m7 : Fx (RS [14]) m m7 := f_m5.tr g13 (RS_sub rfl)
      refine ⟨v8, rfl, ?_⟩
      exact ⟨w_m7, f_m7, _, rfl, (by show (0 : Int) ≤ (v8).toInt; omega), (by show (v8).toInt ≤ (2 : Int); omega)⟩
    · intro c16
      have k17 := y_ner (n := 0) rfl c16
      refine ⟨?_, ?_⟩
      · intro c18
        have k19 := y_ner (n := 1) rfl c18
        exact ⟨w, f, _, rfl, (by show (0 : Int) ≤ (0 : Int); omega), (by show (0 : Int) ≤ (2 : Int); omega)⟩
      · intro c20
        have k21 := y_eqr (n := 1) rfl c20
        exact ⟨w, f, _, rfl, (by show (0 : Int) ≤ (1 : Int); omega), (by show (1 : Int) ≤ (2 : Int); omega)⟩
  · intro c22
    have k23 := y_eqr (n := 3) rfl c22
    exact ⟨w, f, _, rfl, (by show (0 : Int) ≤ (2 : Int); omega), (by show (2 : Int) ≤ (2 : Int); omega)⟩
set_option maxHeartbeats 4000000 in
theorem s_X1_chance {ad : Nat → Nat} {d : Nat} {m : Wm} {b1 ρ1 : Nat} {x2 x3 : Int32} (w : WT m) (hb1 : SS b1 ρ1) (i1 : (0 : Int) ≤ x2.toInt) (i2 : x2.toInt ≤ (7 : Int)) (i3 : (0 : Int) ≤ x3.toInt) (i4 : x3.toInt ≤ (7 : Int)) : Ct ad μX1_chance (d + 4) [.ref (ad 3), .ref (ad b1), .int x2, .int x3] m (fun r m' => WT m' ∧ Fx (RS [14]) m m' ∧ ∃ v : Int32, r = some (.int v) ∧ (0 : Int) ≤ v.toInt ∧ v.toInt ≤ 100) := by
  have f : Fx (RS [14]) m m := Fx.rf
  refine v_X1_chance hb1.1 ?_
  obtain ⟨r1, e1, q2⟩ := w.r31
  refine ⟨r1, e1, Ru_of q2, ?_⟩
  have r3 := w.at (a := 3) (k := 4) rfl
  refine (s_X5_value w q2 hb1 (by show (0 : Int) ≤ (x2).toInt; omega) (by show (x2).toInt ≤ (7 : Int); omega) (by show (0 : Int) ≤ ((m.1 3 4)).toInt; omega) (by show ((m.1 3 4)).toInt ≤ (4 : Int); omega)).to ?_
  rintro _ m2 ⟨w_m2, g4, v3, rfl⟩
  have f_m2 : Fx (RS [14]) m m2 := f.tr g4 (RS_sub rfl)
  refine ⟨v3, rfl, ?_⟩
  obtain ⟨r4, e5, q6⟩ := w_m2.r31
  refine ⟨r4, e5, Ru_of q6, ?_⟩
  have r7 := w_m2.at (a := 3) (k := 4) rfl
  refine (s_X5_value w_m2 q6 hb1 (by show (0 : Int) ≤ (x3).toInt; omega) (by show (x3).toInt ≤ (7 : Int); omega) (by show (0 : Int) ≤ ((m2.1 3 4)).toInt; omega) (by show ((m2.1 3 4)).toInt ≤ (4 : Int); omega)).to ?_
  rintro _ m5 ⟨w_m5, g8, v6, rfl⟩
  have f_m5 : Fx (RS [14]) m m5 := f_m2.tr g8 (RS_sub rfl)
  refine ⟨v6, rfl, ?_⟩
  refine (s_X11_clamp w_m5).to ?_
  rintro _ m7 ⟨w_m7, g9, v8, rfl, p10⟩
  have f_m7 : Fx (RS [14]) m m7 := f_m5.tr g9 (RS_sub rfl)
  have p11 : (100 : Int) < (0 : Int) ∨ ((0 : Int) ≤ v8.toInt ∧ v8.toInt ≤ (100 : Int)) := p10
  clear p10
  refine ⟨v8, rfl, ?_⟩
  exact ⟨w_m7, f_m7, _, rfl, (by show (0 : Int) ≤ (v8).toInt; omega), (by show (v8).toInt ≤ (100 : Int); omega)⟩
set_option maxHeartbeats 4000000 in
theorem s_X1_drawnResult {ad : Nat → Nat} {d : Nat} {m : Wm} {b1 ρ1 : Nat} {x2 x3 : Int32} (w : WT m) (hb1 : SS b1 ρ1) (i1 : (0 : Int) ≤ x2.toInt) (i2 : x2.toInt ≤ (7 : Int)) (i3 : (0 : Int) ≤ x3.toInt) (i4 : x3.toInt ≤ (7 : Int)) : Ct ad μX1_drawnResult (d + 5) [.ref (ad 3), .ref (ad b1), .int x2, .int x3] m (fun r m' => WT m' ∧ Fx (RS (ρ1 :: [14])) m m' ∧ ∃ v : Int32, r = some (.int v) ∧ (0 : Int) ≤ v.toInt ∧ v.toInt ≤ 1) := by
  have f : Fx (RS (ρ1 :: [14])) m m := Fx.rf
  refine v_X1_drawnResult hb1.1 ?_
  refine (s_X1_chance w hb1 (by show (0 : Int) ≤ (x2).toInt; omega) (by show (x2).toInt ≤ (7 : Int); omega) (by show (0 : Int) ≤ (x3).toInt; omega) (by show (x3).toInt ≤ (7 : Int); omega)).to ?_
  rintro _ m1 ⟨w_m1, g1, v2, rfl, p2, p3⟩
  have f_m1 : Fx (RS (ρ1 :: [14])) m m1 := f.tr g1 (RS_tl rfl)
  refine ⟨v2, rfl, ?_⟩
  refine ⟨?_, ?_⟩
  · intro c4
    have w5 : WT (uI m1 b1 4 (((m1.1 b1 4) * (1103515245 : Int32)) + (12345 : Int32))) := w_m1.s0 hb1.2
    have f5 : Fx (RS (ρ1 :: [14])) m (uI m1 b1 4 (((m1.1 b1 4) * (1103515245 : Int32)) + (12345 : Int32))) := f_m1.i (RS_hd0 hb1.2)
    exact ⟨w5, f5, _, rfl, (by show (0 : Int) ≤ (1 : Int); omega), (by show (1 : Int) ≤ (1 : Int); omega)⟩
  · intro c6
    have w7 : WT (uI m1 b1 4 (((m1.1 b1 4) * (1103515245 : Int32)) + (12345 : Int32))) := w_m1.s0 hb1.2
    have f7 : Fx (RS (ρ1 :: [14])) m (uI m1 b1 4 (((m1.1 b1 4) * (1103515245 : Int32)) + (12345 : Int32))) := f_m1.i (RS_hd0 hb1.2)
    exact ⟨w7, f7, _, rfl, (by show (0 : Int) ≤ (0 : Int); omega), (by show (0 : Int) ≤ (1 : Int); omega)⟩
set_option maxHeartbeats 4000000 in
theorem s_X1_givePoints {ad : Nat → Nat} {d : Nat} {m : Wm} {b0 ρ0 : Nat} {x1 x2 x3 : Int32} (w : WT m) (hb0 : SS b0 ρ0) (i1 : (0 : Int) ≤ x1.toInt) (i2 : x1.toInt ≤ (7 : Int)) (i3 : (0 : Int) ≤ x2.toInt) (i4 : x2.toInt ≤ (7 : Int)) : Ct ad μX1_givePoints d [.ref (ad b0), .int x1, .int x2, .int x3] m (fun r m' => WT m' ∧ Fx (RS (ρ0 :: [])) m m' ∧ r = none) := by
  have f : Fx (RS (ρ0 :: [])) m m := Fx.rf
  refine v_X1_givePoints hb0.1 ?_
  refine ⟨?_, ?_⟩
  · intro c1
    have k2 := y_ner (n := 2) rfl c1
    refine ⟨?_, ?_⟩
    · intro c3
      have k4 := y_ner (n := 0) rfl c3
      refine ⟨?_, ?_⟩
      · exact vpi (by omega) (by omega)
      · refine ⟨?_, ?_⟩
        · exact vpi (by omega) (by omega)
        · have w5 : WT (uI m (b0 + 2) x2.toNatClampNeg ((m.1 (b0 + 2) x2.toNatClampNeg) + (3 : Int32))) := w.s hb0.2 (by decide)
          have f5 : Fx (RS (ρ0 :: [])) m (uI m (b0 + 2) x2.toNatClampNeg ((m.1 (b0 + 2) x2.toNatClampNeg) + (3 : Int32))) := f.i (RS_hd hb0.2 (by decide))
          exact ⟨w5, f5, rfl⟩
    · intro c6
      have k7 := y_eqr (n := 0) rfl c6
      refine ⟨?_, ?_⟩
      · exact vpi (by omega) (by omega)
      · refine ⟨?_, ?_⟩
        · exact vpi (by omega) (by omega)
        · have w8 : WT (uI m (b0 + 2) x1.toNatClampNeg ((m.1 (b0 + 2) x1.toNatClampNeg) + (3 : Int32))) := w.s hb0.2 (by decide)
          have f8 : Fx (RS (ρ0 :: [])) m (uI m (b0 + 2) x1.toNatClampNeg ((m.1 (b0 + 2) x1.toNatClampNeg) + (3 : Int32))) := f.i (RS_hd hb0.2 (by decide))
          exact ⟨w8, f8, rfl⟩
  · intro c9
    have k10 := y_eqr (n := 2) rfl c9
    refine ⟨?_, ?_⟩
    · exact vpi (by omega) (by omega)
    · refine ⟨?_, ?_⟩
      · exact vpi (by omega) (by omega)
      · refine ⟨?_, ?_⟩
        · exact vpi (by omega) (by omega)
        · refine ⟨?_, ?_⟩
          · exact vpi (by omega) (by omega)
          · have w11 : WT (uI m (b0 + 2) x1.toNatClampNeg ((m.1 (b0 + 2) x1.toNatClampNeg) + (1 : Int32))) := w.s hb0.2 (by decide)
            have f11 : Fx (RS (ρ0 :: [])) m (uI m (b0 + 2) x1.toNatClampNeg ((m.1 (b0 + 2) x1.toNatClampNeg) + (1 : Int32))) := f.i (RS_hd hb0.2 (by decide))
            have w12 : WT (uI (uI m (b0 + 2) x1.toNatClampNeg ((m.1 (b0 + 2) x1.toNatClampNeg) + (1 : Int32))) (b0 + 2) x2.toNatClampNeg (((uI m (b0 + 2) x1.toNatClampNeg ((m.1 (b0 + 2) x1.toNatClampNeg) + (1 : Int32))).1 (b0 + 2) x2.toNatClampNeg) + (1 : Int32))) := w11.s hb0.2 (by decide)
            have f12 : Fx (RS (ρ0 :: [])) m (uI (uI m (b0 + 2) x1.toNatClampNeg ((m.1 (b0 + 2) x1.toNatClampNeg) + (1 : Int32))) (b0 + 2) x2.toNatClampNeg (((uI m (b0 + 2) x1.toNatClampNeg ((m.1 (b0 + 2) x1.toNatClampNeg) + (1 : Int32))).1 (b0 + 2) x2.toNatClampNeg) + (1 : Int32))) := f11.i (RS_hd hb0.2 (by decide))
            exact ⟨w12, f12, rfl⟩
set_option maxHeartbeats 4000000 in
theorem l_X1_teach {ad : Nat → Nat} {d : Nat} {m0 : Wm} {b1 ρ1 : Nat} (hb1 : SS b1 ρ1) : ∀ n : Nat, (∀ (m : Wm) (x2 x3 x4 x5 x6 x7 s0 : Int32), WT m → Fx (RS (ρ1 :: [2])) m0 m → (0 : Int) ≤ x2.toInt → x2.toInt ≤ (7 : Int) → 0 * x2.toInt + 2 < (n : Int) → AW ad E0 μX1_teach (d + 2) (fun r m' => WT m' ∧ Fx (RS (ρ1 :: [2])) m0 m' ∧ r = none) 63 [(0, .ref (ad 3)), (1, .ref (ad b1)), (2, .int x2), (3, .int x3), (4, .int x4), (5, .int x5), (6, .int x6), (7, .int x7)] [.int s0] m) ∧ (∀ (m : Wm) (x5 x8 : Int32), WT m → Fx (RS (ρ1 :: [2])) m0 m → 0 * x5.toInt + 1 < (n : Int) → AW ad E0 μX1_teach (d + 2) (fun r m' => WT m' ∧ Fx (RS (ρ1 :: [2])) m0 m' ∧ r = none) 117 [(0, .ref (ad 3)), (5, .int x5), (8, .int x8)] [] m) := by
  intro n
  induction n with
  | zero =>
    refine ⟨?_, ?_⟩ <;> intros <;> exfalso <;> omega
  | succ n ih =>
    refine ⟨?_, ?_⟩
    · intro m x2 x3 x4 x5 x6 x7 s0 w f j1 j2 hn
      refine g_X1_teach_63 hb1.1 ?_
      refine (s_X8_putSkill w hb1).to ?_
      rintro _ m1 ⟨w_m1, g1, rfl⟩
      have f_m1 : Fx (RS (ρ1 :: [2])) m0 m1 := f.tr g1 (RS_cons rfl)
      refine ⟨rfl, ?_⟩
      refine (s_X11_clamp w_m1).to ?_
      rintro _ m2 ⟨w_m2, g2, v3, rfl, p3⟩
      have f_m2 : Fx (RS (ρ1 :: [2])) m0 m2 := f_m1.tr g2 (RS_tl rfl)
      have p4 : (7 : Int) < (0 : Int) ∨ ((0 : Int) ≤ v3.toInt ∧ v3.toInt ≤ (7 : Int)) := p3
      clear p3
      refine ⟨v3, rfl, ?_⟩
      refine (s_X8_putSkill w_m2 hb1).to ?_
      rintro _ m4 ⟨w_m4, g5, rfl⟩
      have f_m4 : Fx (RS (ρ1 :: [2])) m0 m4 := f_m2.tr g5 (RS_cons rfl)
      refine ⟨rfl, ?_⟩
      refine ⟨?_, ?_⟩
      · intro c6
        have k7 := y_eqr (n := 0) rfl c6
        exact ih.2 _ _ _ w_m4 f_m4 (by show 0 * (x5).toInt + 1 < _; omega)
      · intro c8
        have k9 := y_ner (n := 0) rfl c8
        refine ⟨?_, ?_⟩
        · exact vpi (by omega) (by omega)
        · refine ⟨?_, ?_⟩
          · exact vpi (by omega) (by omega)
          · have w10 : WT (uI m4 (b1 + 3) x2.toNatClampNeg ((m4.1 (b1 + 3) x2.toNatClampNeg) + s0)) := w_m4.s hb1.2 (by decide)
            have f10 : Fx (RS (ρ1 :: [2])) m0 (uI m4 (b1 + 3) x2.toNatClampNeg ((m4.1 (b1 + 3) x2.toNatClampNeg) + s0)) := f_m4.i (RS_hd hb1.2 (by decide))
            exact ih.2 _ _ _ w10 f10 (by show 0 * (x5).toInt + 1 < _; omega)
    · intro m x5 x8 w f  hn
      refine g_X1_teach_117  ?_
      refine ⟨?_, ?_⟩
      · intro c1
        have k2 := y_ner (n := -1) rfl c1
        exact ⟨w, f, rfl⟩
      · intro c3
        have k4 := y_eqr (n := -1) rfl c3
        have w5 : WT (uI m 3 6 x5) := w.n rfl
        have f5 : Fx (RS (ρ1 :: [2])) m0 (uI m 3 6 x5) := f.i (RS_tl (l1 := [2]) rfl _ _ rfl)
        have w6 : WT (uI (uI m 3 6 x5) 3 7 x8) := w5.n rfl
        have f6 : Fx (RS (ρ1 :: [2])) m0 (uI (uI m 3 6 x5) 3 7 x8) := f5.i (RS_tl (l1 := [2]) rfl _ _ rfl)
        exact ⟨w6, f6, rfl⟩
set_option maxHeartbeats 4000000 in
theorem s_X1_teach {ad : Nat → Nat} {d : Nat} {m : Wm} {b1 ρ1 : Nat} {x2 x3 x4 : Int32} (w : WT m) (hb1 : SS b1 ρ1) (i1 : (0 : Int) ≤ x2.toInt) (i2 : x2.toInt ≤ (7 : Int)) (i3 : (0 : Int) ≤ x3.toInt) (i4 : x3.toInt ≤ (7 : Int)) : Ct ad μX1_teach (d + 2) [.ref (ad 3), .ref (ad b1), .int x2, .int x3, .int x4] m (fun r m' => WT m' ∧ Fx (RS (ρ1 :: [2])) m m' ∧ r = none) := by
  have f : Fx (RS (ρ1 :: [2])) m m := Fx.rf
  refine v_X1_teach hb1.1 ?_
  have r1 := w.at (a := 3) (k := 4) rfl
  refine (s_X8_furthestArt w hb1 (by show (0 : Int) ≤ (x2).toInt; omega) (by show (x2).toInt ≤ (7 : Int); omega) (by show (0 : Int) ≤ (x3).toInt; omega) (by show (x3).toInt ≤ (7 : Int); omega) (by show (0 : Int) ≤ ((m.1 3 4)).toInt; omega) (by show ((m.1 3 4)).toInt ≤ (4 : Int); omega)).to ?_
  rintro _ m1 ⟨w_m1, g2, v2, rfl⟩
  have f_m1 : Fx (RS (ρ1 :: [2])) m m1 := f.tr g2 (RS_tl rfl)
  refine ⟨v2, rfl, ?_⟩
  refine ⟨?_, ?_⟩
  · intro c3
    have k4 := y_ner (n := -1) rfl c3
    refine (s_X8_skillOf w_m1 hb1).to ?_
    rintro _ m3 ⟨w_m3, g5, v4, rfl⟩
    have f_m3 : Fx (RS (ρ1 :: [2])) m m3 := f_m1.tr g5 (RS_tl rfl)
    refine ⟨v4, rfl, ?_⟩
    refine (s_X8_skillOf w_m3 hb1).to ?_
    rintro _ m5 ⟨w_m5, g6, v6, rfl⟩
    have f_m5 : Fx (RS (ρ1 :: [2])) m m5 := f_m3.tr g6 (RS_tl rfl)
    refine ⟨v6, rfl, ?_⟩
    refine (s_X1_isIll w_m5).to ?_
    rintro _ m7 ⟨w_m7, g7, v8, rfl, p8, p9⟩
    have f_m7 : Fx (RS (ρ1 :: [2])) m m7 := f_m5.tr g7 (RS_tl rfl)
    refine ⟨v8, rfl, ?_⟩
    refine ⟨?_, ?_⟩
    · intro c10
      have k11 := y_eqr (n := 0) rfl c10
      exact (l_X1_teach (m0 := m) hb1 1000000).1 _ _ _ _ _ _ _ _ w_m7 f_m7 (by show (0 : Int) ≤ (x2).toInt; omega) (by show (x2).toInt ≤ (7 : Int); omega) (by show 0 * (x2).toInt + 2 < _; omega)
    · intro c12
      have k13 := y_ner (n := 0) rfl c12
      exact (l_X1_teach (m0 := m) hb1 1000000).1 _ _ _ _ _ _ _ _ w_m7 f_m7 (by show (0 : Int) ≤ (x2).toInt; omega) (by show (x2).toInt ≤ (7 : Int); omega) (by show 0 * (x2).toInt + 2 < _; omega)
  · intro c14
    have k15 := y_eqr (n := -1) rfl c14
    exact ⟨w_m1, f_m1, rfl⟩
set_option maxHeartbeats 4000000 in
theorem l_X1_settle {ad : Nat → Nat} {d : Nat} {m0 : Wm} {b1 ρ1 : Nat} (hb1 : SS b1 ρ1) : ∀ n : Nat, (∀ (m : Wm) (x2 x3 x4 x5 : Int32), WT m → Fx (RS (ρ1 :: [2])) m0 m → (0 : Int) ≤ x2.toInt → x2.toInt ≤ (7 : Int) → (0 : Int) ≤ x3.toInt → x3.toInt ≤ (7 : Int) → 0 * x5.toInt + 4 < (n : Int) → AW ad E0 μX1_settle (d + 3) (fun r m' => WT m' ∧ Fx (RS (ρ1 :: [2])) m0 m' ∧ r = none) 23 [(0, .ref (ad 3)), (1, .ref (ad b1)), (2, .int x2), (3, .int x3), (4, .int x4), (5, .int x5)] [] m) ∧ (∀ (m : Wm) (x5 x6 s0 : Int32), WT m → Fx (RS (ρ1 :: [2])) m0 m → (0 : Int) ≤ x6.toInt → x6.toInt ≤ (7 : Int) → (0 : Int) ≤ s0.toInt → s0.toInt ≤ (7 : Int) → 0 * x5.toInt + 3 < (n : Int) → AW ad E0 μX1_settle (d + 3) (fun r m' => WT m' ∧ Fx (RS (ρ1 :: [2])) m0 m' ∧ r = none) 52 [(0, .ref (ad 3)), (1, .ref (ad b1)), (5, .int x5), (6, .int x6)] [.int s0] m) ∧ (∀ (m : Wm) (x5 x6 x7 : Int32), WT m → Fx (RS (ρ1 :: [2])) m0 m → (0 : Int) ≤ x6.toInt → x6.toInt ≤ (7 : Int) → (0 : Int) ≤ x7.toInt → x7.toInt ≤ (7 : Int) → 0 * x5.toInt + 2 < (n : Int) → AW ad E0 μX1_settle (d + 3) (fun r m' => WT m' ∧ Fx (RS (ρ1 :: [2])) m0 m' ∧ r = none) 84 [(0, .ref (ad 3)), (1, .ref (ad b1)), (5, .int x5), (6, .int x6), (7, .int x7)] [] m) ∧ (∀ (m : Wm) (x5 x6 x7 : Int32), WT m → Fx (RS (ρ1 :: [2])) m0 m → (0 : Int) ≤ x6.toInt → x6.toInt ≤ (7 : Int) → (0 : Int) ≤ x7.toInt → x7.toInt ≤ (7 : Int) → 0 * x5.toInt + 1 < (n : Int) → AW ad E0 μX1_settle (d + 3) (fun r m' => WT m' ∧ Fx (RS (ρ1 :: [2])) m0 m' ∧ r = none) 104 [(0, .ref (ad 3)), (1, .ref (ad b1)), (5, .int x5), (6, .int x6), (7, .int x7)] [] m) := by
  intro n
  induction n with
  | zero =>
    refine ⟨?_, ?_, ?_, ?_⟩ <;> intros <;> exfalso <;> omega
  | succ n ih =>
    refine ⟨?_, ?_, ?_, ?_⟩
    · intro m x2 x3 x4 x5 w f j1 j2 j3 j4 hn
      refine g_X1_settle_23 hb1.1 ?_
      refine ⟨?_, ?_⟩
      · intro c1
        have k2 := y_ner (n := 2) rfl c1
        refine ⟨?_, ?_⟩
        · intro c3
          have k4 := y_ner (n := 0) rfl c3
          refine ⟨?_, ?_⟩
          · intro c5
            have k6 := y_ner (n := 0) rfl c5
            exact ih.2.1 _ _ _ _ w f (by show (0 : Int) ≤ (x3).toInt; omega) (by show (x3).toInt ≤ (7 : Int); omega) (by show (0 : Int) ≤ (x2).toInt; omega) (by show (x2).toInt ≤ (7 : Int); omega) (by show 0 * (x5).toInt + 3 < _; omega)
          · intro c7
            have k8 := y_eqr (n := 0) rfl c7
            exact ih.2.1 _ _ _ _ w f (by show (0 : Int) ≤ (x3).toInt; omega) (by show (x3).toInt ≤ (7 : Int); omega) (by show (0 : Int) ≤ (x3).toInt; omega) (by show (x3).toInt ≤ (7 : Int); omega) (by show 0 * (x5).toInt + 3 < _; omega)
        · intro c9
          have k10 := y_eqr (n := 0) rfl c9
          refine ⟨?_, ?_⟩
          · intro c11
            have k12 := y_ner (n := 0) rfl c11
            exact ih.2.1 _ _ _ _ w f (by show (0 : Int) ≤ (x2).toInt; omega) (by show (x2).toInt ≤ (7 : Int); omega) (by show (0 : Int) ≤ (x2).toInt; omega) (by show (x2).toInt ≤ (7 : Int); omega) (by show 0 * (x5).toInt + 3 < _; omega)
          · intro c13
            have k14 := y_eqr (n := 0) rfl c13
            exact ih.2.1 _ _ _ _ w f (by show (0 : Int) ≤ (x2).toInt; omega) (by show (x2).toInt ≤ (7 : Int); omega) (by show (0 : Int) ≤ (x3).toInt; omega) (by show (x3).toInt ≤ (7 : Int); omega) (by show 0 * (x5).toInt + 3 < _; omega)
      · intro c15
        have k16 := y_eqr (n := 2) rfl c15
        exact ⟨w, f, rfl⟩
    · intro m x5 x6 s0 w f j1 j2 j3 j4 hn
      refine g_X1_settle_52 hb1.1 ?_
      refine ⟨?_, ?_⟩
      · intro c1
        have k2 := y_eqr (n := 0) rfl c1
        refine (s_X1_teach w hb1 (by show (0 : Int) ≤ (x6).toInt; omega) (by show (x6).toInt ≤ (7 : Int); omega) (by show (0 : Int) ≤ (s0).toInt; omega) (by show (s0).toInt ≤ (7 : Int); omega)).to ?_
        rintro _ m1 ⟨w_m1, g3, rfl⟩
        have f_m1 : Fx (RS (ρ1 :: [2])) m0 m1 := f.tr g3 (RS_cons rfl)
        refine ⟨rfl, ?_⟩
        exact ih.2.2.1 _ _ _ _ w_m1 f_m1 (by show (0 : Int) ≤ (x6).toInt; omega) (by show (x6).toInt ≤ (7 : Int); omega) (by show (0 : Int) ≤ (s0).toInt; omega) (by show (s0).toInt ≤ (7 : Int); omega) (by show 0 * (x5).toInt + 2 < _; omega)
      · intro c4
        have k5 := y_ner (n := 0) rfl c4
        refine ⟨?_, ?_⟩
        · intro c6
          have k7 := y_ner (n := 2) rfl c6
          exact ih.2.2.1 _ _ _ _ w f (by show (0 : Int) ≤ (x6).toInt; omega) (by show (x6).toInt ≤ (7 : Int); omega) (by show (0 : Int) ≤ (s0).toInt; omega) (by show (s0).toInt ≤ (7 : Int); omega) (by show 0 * (x5).toInt + 2 < _; omega)
        · intro c8
          have k9 := y_eqr (n := 2) rfl c8
          refine (s_X1_teach w hb1 (by show (0 : Int) ≤ (x6).toInt; omega) (by show (x6).toInt ≤ (7 : Int); omega) (by show (0 : Int) ≤ (s0).toInt; omega) (by show (s0).toInt ≤ (7 : Int); omega)).to ?_
          rintro _ m2 ⟨w_m2, g10, rfl⟩
          have f_m2 : Fx (RS (ρ1 :: [2])) m0 m2 := f.tr g10 (RS_cons rfl)
          refine ⟨rfl, ?_⟩
          exact ih.2.2.1 _ _ _ _ w_m2 f_m2 (by show (0 : Int) ≤ (x6).toInt; omega) (by show (x6).toInt ≤ (7 : Int); omega) (by show (0 : Int) ≤ (s0).toInt; omega) (by show (s0).toInt ≤ (7 : Int); omega) (by show 0 * (x5).toInt + 2 < _; omega)
    · intro m x5 x6 x7 w f j1 j2 j3 j4 hn
      refine g_X1_settle_84 hb1.1 ?_
      refine ⟨?_, ?_⟩
      · intro c1
        have k2 := y_eqr (n := 1) rfl c1
        exact ih.2.2.2 _ _ _ _ w f (by show (0 : Int) ≤ (x6).toInt; omega) (by show (x6).toInt ≤ (7 : Int); omega) (by show (0 : Int) ≤ (x7).toInt; omega) (by show (x7).toInt ≤ (7 : Int); omega) (by show 0 * (x5).toInt + 1 < _; omega)
      · intro c3
        have k4 := y_ner (n := 1) rfl c3
        refine ⟨?_, ?_⟩
        · intro c5
          have k6 := y_ner (n := 2) rfl c5
          exact ⟨w, f, rfl⟩
        · intro c7
          have k8 := y_eqr (n := 2) rfl c7
          exact ih.2.2.2 _ _ _ _ w f (by show (0 : Int) ≤ (x6).toInt; omega) (by show (x6).toInt ≤ (7 : Int); omega) (by show (0 : Int) ≤ (x7).toInt; omega) (by show (x7).toInt ≤ (7 : Int); omega) (by show 0 * (x5).toInt + 1 < _; omega)
    · intro m x5 x6 x7 w f j1 j2 j3 j4 hn
      refine g_X1_settle_104 hb1.1 ?_
      refine (s_X1_teach w hb1 (by show (0 : Int) ≤ (x7).toInt; omega) (by show (x7).toInt ≤ (7 : Int); omega) (by show (0 : Int) ≤ (x6).toInt; omega) (by show (x6).toInt ≤ (7 : Int); omega)).to ?_
      rintro _ m1 ⟨w_m1, g1, rfl⟩
      have f_m1 : Fx (RS (ρ1 :: [2])) m0 m1 := f.tr g1 (RS_cons rfl)
      refine ⟨rfl, ?_⟩
      exact ⟨w_m1, f_m1, rfl⟩
set_option maxHeartbeats 4000000 in
theorem s_X1_settle {ad : Nat → Nat} {d : Nat} {m : Wm} {b1 ρ1 : Nat} {x2 x3 x4 x5 : Int32} (w : WT m) (hb1 : SS b1 ρ1) (i1 : (0 : Int) ≤ x2.toInt) (i2 : x2.toInt ≤ (7 : Int)) (i3 : (0 : Int) ≤ x3.toInt) (i4 : x3.toInt ≤ (7 : Int)) : Ct ad μX1_settle (d + 3) [.ref (ad 3), .ref (ad b1), .int x2, .int x3, .int x4, .int x5] m (fun r m' => WT m' ∧ Fx (RS (ρ1 :: [2])) m m' ∧ r = none) := by
  have f : Fx (RS (ρ1 :: [2])) m m := Fx.rf
  refine v_X1_settle hb1.1 ?_
  refine ⟨?_, ?_⟩
  · intro c1
    have k2 := y_eqr (n := 0) rfl c1
    have w3 : WT (uI m 3 6 (-1 : Int32)) := w.n rfl
    have f3 : Fx (RS (ρ1 :: [2])) m (uI m 3 6 (-1 : Int32)) := f.i (RS_tl (l1 := [2]) rfl _ _ rfl)
    have w4 : WT (uI (uI m 3 6 (-1 : Int32)) 3 7 (0 : Int32)) := w3.n rfl
    have f4 : Fx (RS (ρ1 :: [2])) m (uI (uI m 3 6 (-1 : Int32)) 3 7 (0 : Int32)) := f3.i (RS_tl (l1 := [2]) rfl _ _ rfl)
    exact (l_X1_settle (m0 := m) hb1 1000000).1 _ _ _ _ _ w4 f4 (by show (0 : Int) ≤ (x2).toInt; omega) (by show (x2).toInt ≤ (7 : Int); omega) (by show (0 : Int) ≤ (x3).toInt; omega) (by show (x3).toInt ≤ (7 : Int); omega) (by show 0 * (x5).toInt + 4 < _; omega)
  · intro c5
    have k6 := y_ner (n := 0) rfl c5
    have w7 : WT (uI m 3 6 (-1 : Int32)) := w.n rfl
    have f7 : Fx (RS (ρ1 :: [2])) m (uI m 3 6 (-1 : Int32)) := f.i (RS_tl (l1 := [2]) rfl _ _ rfl)
    have w8 : WT (uI (uI m 3 6 (-1 : Int32)) 3 7 (0 : Int32)) := w7.n rfl
    have f8 : Fx (RS (ρ1 :: [2])) m (uI (uI m 3 6 (-1 : Int32)) 3 7 (0 : Int32)) := f7.i (RS_tl (l1 := [2]) rfl _ _ rfl)
    refine (s_X1_givePoints w8 hb1 (by show (0 : Int) ≤ (x2).toInt; omega) (by show (x2).toInt ≤ (7 : Int); omega) (by show (0 : Int) ≤ (x3).toInt; omega) (by show (x3).toInt ≤ (7 : Int); omega)).to ?_
    rintro _ m1 ⟨w_m1, g9, rfl⟩
    have f_m1 : Fx (RS (ρ1 :: [2])) m m1 := f8.tr g9 (RS_cons rfl)
    refine ⟨rfl, ?_⟩
    exact (l_X1_settle (m0 := m) hb1 1000000).1 _ _ _ _ _ w_m1 f_m1 (by show (0 : Int) ≤ (x2).toInt; omega) (by show (x2).toInt ≤ (7 : Int); omega) (by show (0 : Int) ≤ (x3).toInt; omega) (by show (x3).toInt ≤ (7 : Int); omega) (by show 0 * (x5).toInt + 4 < _; omega)
set_option maxHeartbeats 4000000 in
theorem l_X2_save {ad : Nat → Nat} {d : Nat} {m0 : Wm}  : ∀ n : Nat, (∀ (m : Wm) (s0 : Int32), WT m → Fx (RS [6, 53]) m0 m → (0 : Int) ≤ s0.toInt → s0.toInt ≤ (19 : Int) → 0 * s0.toInt < (n : Int) → AW ad E0 μX2_save (d + 2) (fun r m' => WT m' ∧ Fx (RS [6, 53]) m0 m' ∧ r = none) 22 [(0, .ref (ad 31)), (1, .ref (ad 21))] [.int s0, .ref (ad 31)] m) := by
  intro n
  induction n with
  | zero =>
    intros
    exfalso
    omega
  | succ n ih =>
    intro m s0 w f j1 j2 hn
    refine g_X2_save_22 St_21 ?_
    refine ⟨?_, ?_⟩
    · show vp_in s0 20
      exact vpi (by omega) (by omega)
    · obtain ⟨r1, e1, hr1⟩ := w.ring (x := s0) (by omega) (by omega)
      refine ⟨r1, e1, hr1.1, ?_⟩
      have w3 : WT (uI m 31 2 s0) := w.t rfl (by show (0 : Int) ≤ (s0).toInt; omega) (by show (s0).toInt ≤ 19; omega)
      have f3 : Fx (RS [6, 53]) m0 (uI m 31 2 s0) := f.i rfl
      refine (s_X8_copy w3 hr1 SS_21).to ?_
      rintro _ m2 ⟨w_m2, g4, rfl⟩
      have f_m2 : Fx (RS [6, 53]) m0 m2 := f3.tr g4 (RS_sub rfl)
      refine ⟨rfl, ?_⟩
      have r6 := w_m2.at (a := 31) (k := 1) rfl
      have t7 := ti_addc (x := (m2.1 31 1)) (y := (1 : Int32)) (c := 1) rfl (by omega)
      have t8 := ti_ltv (a := (20 : Int32)) (b := ((m2.1 31 1) + (1 : Int32))) (c := (20 : Int32)) (d := ((m2.1 31 1) + (1 : Int32))) (A := (20)) (B := ((m2.1 31 1) + (1 : Int32)).toInt) (C := (20)) (D := ((m2.1 31 1) + (1 : Int32)).toInt) rfl rfl rfl rfl
      have w5 : WT (uI m2 31 1 (if (20 : Int32) < ((m2.1 31 1) + (1 : Int32)) then (20 : Int32) else ((m2.1 31 1) + (1 : Int32)))) := w_m2.t rfl (by show (0 : Int) ≤ ((if (20 : Int32) < ((m2.1 31 1) + (1 : Int32)) then (20 : Int32) else ((m2.1 31 1) + (1 : Int32)))).toInt; omega) (by show ((if (20 : Int32) < ((m2.1 31 1) + (1 : Int32)) then (20 : Int32) else ((m2.1 31 1) + (1 : Int32)))).toInt ≤ 20; omega)
      have f5 : Fx (RS [6, 53]) m0 (uI m2 31 1 (if (20 : Int32) < ((m2.1 31 1) + (1 : Int32)) then (20 : Int32) else ((m2.1 31 1) + (1 : Int32)))) := f_m2.i rfl
      exact ⟨w5, f5, rfl⟩
set_option maxHeartbeats 4000000 in
theorem s_X2_save {ad : Nat → Nat} {d : Nat} {m : Wm} (w : WT m) : Ct ad μX2_save (d + 2) [.ref (ad 31), .ref (ad 21)] m (fun r m' => WT m' ∧ Fx (RS [6, 53]) m m' ∧ r = none) := by
  have f : Fx (RS [6, 53]) m m := Fx.rf
  refine v_X2_save St_21 ?_
  refine ⟨?_, ?_⟩
  · intro c1
    have r2 := w.at (a := 31) (k := 2) rfl
    have t3 := ti_addc (x := (m.1 31 2)) (y := (1 : Int32)) (c := 1) rfl (by omega)
    have k4 := y_lel (n := 20) rfl c1
    exact (l_X2_save (m0 := m) 1000000) _ _ w f (by show (0 : Int) ≤ (0 : Int); omega) (by show (0 : Int) ≤ (19 : Int); omega) (by show 0 * (0 : Int) < _; omega)
  · intro c5
    have r6 := w.at (a := 31) (k := 2) rfl
    have t7 := ti_addc (x := (m.1 31 2)) (y := (1 : Int32)) (c := 1) rfl (by omega)
    have k8 := y_nlel (n := 20) rfl c5
    exact (l_X2_save (m0 := m) 1000000) _ _ w f (by show (0 : Int) ≤ (((m.1 31 2) + (1 : Int32))).toInt; omega) (by show (((m.1 31 2) + (1 : Int32))).toInt ≤ (19 : Int); omega) (by show 0 * (((m.1 31 2) + (1 : Int32))).toInt < _; omega)
set_option maxHeartbeats 4000000 in
theorem l_X2_takeBack {ad : Nat → Nat} {d : Nat} {m0 : Wm}  : ∀ n : Nat, (∀ (m : Wm) (s0 : Int32), WT m → Fx (RS [4, 53]) m0 m → (0 : Int) ≤ s0.toInt → s0.toInt ≤ (19 : Int) → (1 ≤ (m.1 31 1).toInt) → 0 * s0.toInt < (n : Int) → AW ad E0 μX2_takeBack (d + 2) (fun r m' => WT m' ∧ Fx (RS [4, 53]) m0 m' ∧ ∃ v : Int32, r = some (.int v) ∧ (0 : Int) ≤ v.toInt ∧ v.toInt ≤ 1) 41 [(0, .ref (ad 31))] [.int s0, .ref (ad 31)] m) := by
  intro n
  induction n with
  | zero =>
    intros
    exfalso
    omega
  | succ n ih =>
    intro m s0 w f j1 j2 j3 hn
    refine g_X2_takeBack_41  ?_
    have w1 : WT (uI m 31 2 s0) := w.t rfl (by show (0 : Int) ≤ (s0).toInt; omega) (by show (s0).toInt ≤ 19; omega)
    have f1 : Fx (RS [4, 53]) m0 (uI m 31 2 s0) := f.i rfl
    have r3 := w.at (a := 31) (k := 1) rfl
    have t4 := ti_subc (x := (m.1 31 1)) (y := (1 : Int32)) (c := 1) rfl (by omega)
    have w2 : WT (uI (uI m 31 2 s0) 31 1 (((uI m 31 2 s0).1 31 1) - (1 : Int32))) := w1.t rfl (by show (0 : Int) ≤ (((m.1 31 1) - (1 : Int32))).toInt; omega) (by show (((m.1 31 1) - (1 : Int32))).toInt ≤ 20; omega)
    have f2 : Fx (RS [4, 53]) m0 (uI (uI m 31 2 s0) 31 1 (((uI m 31 2 s0).1 31 1) - (1 : Int32))) := f1.i rfl
    exact ⟨w2, f2, _, rfl, (by show (0 : Int) ≤ (1 : Int); omega), (by show (1 : Int) ≤ (1 : Int); omega)⟩
set_option maxHeartbeats 4000000 in
theorem s_X2_takeBack {ad : Nat → Nat} {d : Nat} {m : Wm} (w : WT m) : Ct ad μX2_takeBack (d + 2) [.ref (ad 31), .ref (ad 21)] m (fun r m' => WT m' ∧ Fx (RS [4, 53]) m m' ∧ ∃ v : Int32, r = some (.int v) ∧ (0 : Int) ≤ v.toInt ∧ v.toInt ≤ 1) := by
  have f : Fx (RS [4, 53]) m m := Fx.rf
  refine v_X2_takeBack St_21 ?_
  refine ⟨?_, ?_⟩
  · intro c1
    have r2 := w.at (a := 31) (k := 1) rfl
    have k3 := y_ner (n := 0) rfl c1
    refine ⟨?_, ?_⟩
    · have r4 := w.at (a := 31) (k := 2) rfl
      exact vpi (by omega) (by omega)
    · have r7 := w.at (a := 31) (k := 2) rfl
      obtain ⟨r1, e5, hr1⟩ := w.ring (x := (m.1 31 2)) (by omega) (by omega)
      refine ⟨r1, e5, hr1.1, ?_⟩
      refine (s_X8_copy w SS_21 hr1).to ?_
      rintro _ m2 ⟨w_m2, g8, rfl⟩
      have f_m2 : Fx (RS [4, 53]) m m2 := f.tr g8 (RS_sub rfl)
      have e9 : (m2.1 31 1).toInt = ((m.1 31 1)).toInt := congrArg _ (g8.at (a := 31) (k := 1) (by decide))
      have e10 : (m2.1 31 2).toInt = ((m.1 31 2)).toInt := congrArg _ (g8.at (a := 31) (k := 2) (by decide))
      refine ⟨rfl, ?_⟩
      refine ⟨?_, ?_⟩
      · intro c11
        have r12 := w_m2.at (a := 31) (k := 2) rfl
        have k13 := y_ler (n := 0) rfl c11
        have r14 := w_m2.at (a := 31) (k := 1) rfl
        exact (l_X2_takeBack (m0 := m) 1000000) _ _ w_m2 f_m2 (by show (0 : Int) ≤ (19 : Int); omega) (by show (19 : Int) ≤ (19 : Int); omega) (by show 1 ≤ ((m2.1 31 1)).toInt; omega) (by show 0 * (19 : Int) < _; omega)
      · intro c15
        have r16 := w_m2.at (a := 31) (k := 2) rfl
        have k17 := y_nler (n := 0) rfl c15
        have t18 := ti_subc (x := (m2.1 31 2)) (y := (1 : Int32)) (c := 1) rfl (by omega)
        have r19 := w_m2.at (a := 31) (k := 1) rfl
        exact (l_X2_takeBack (m0 := m) 1000000) _ _ w_m2 f_m2 (by show (0 : Int) ≤ (((m2.1 31 2) - (1 : Int32))).toInt; omega) (by show (((m2.1 31 2) - (1 : Int32))).toInt ≤ (19 : Int); omega) (by show 1 ≤ ((m2.1 31 1)).toInt; omega) (by show 0 * (((m2.1 31 2) - (1 : Int32))).toInt < _; omega)
  · intro c20
    have r21 := w.at (a := 31) (k := 1) rfl
    have k22 := y_eqr (n := 0) rfl c20
    exact ⟨w, f, _, rfl, (by show (0 : Int) ≤ (0 : Int); omega), (by show (0 : Int) ≤ (1 : Int); omega)⟩
