/-! SAFETY OF THE CLASS, BY PROGRAM (X9_clear .. X10_cut) -/
set_option maxHeartbeats 4000000 in
theorem l_X9_clear {ad : Nat → Nat} {d : Nat} {m0 : Wm}  : ∀ n : Nat, (∀ (m : Wm) (x1 : Int32), WT m → Fx (RS [10]) m0 m → (0 : Int) ≤ x1.toInt → x1.toInt ≤ (3000 : Int) → 3000 - x1.toInt < (n : Int) → AW ad E0 μX9_clear d (fun r m' => WT m' ∧ Fx (RS [10]) m0 m' ∧ r = none ∧ ((m'.1 151 4).toInt = 0)) 2 [(0, .ref (ad 151)), (1, .int x1)] [] m) := by
  intro n
  induction n with
  | zero =>
    intros
    exfalso
    omega
  | succ n ih =>
    intro m x1 w f j1 j2 hn
    refine g_X9_clear_2  ?_
    refine ⟨?_, ?_⟩
    · intro c1
      have r2 := w.at (a := 151) (k := 4) rfl
      have k3 := z_le c1
      have w4 : WT (uI m 151 4 (0 : Int32)) := w.t rfl (by show (0 : Int) ≤ (0 : Int); omega) (by show (0 : Int) ≤ 3000; omega)
      have f4 : Fx (RS [10]) m0 (uI m 151 4 (0 : Int32)) := f.i rfl
      exact ⟨w4, f4, rfl, (by show (0 : Int) = 0; omega)⟩
    · intro c5
      have r6 := w.at (a := 151) (k := 4) rfl
      have k7 := z_nle c5
      refine ⟨?_, ?_⟩
      · exact vpi (by omega) (by omega)
      · refine ⟨?_, ?_⟩
        · have r8 := w.at (a := 155) (k := x1.toNatClampNeg) rfl
          exact vpi (by omega) (by omega)
        · have w9 : WT (uI m 154 ((m.1 155 x1.toNatClampNeg).toNatClampNeg) (0 : Int32)) := w.t rfl (by show (0 : Int) ≤ (0 : Int); omega) (by show (0 : Int) ≤ 3000; omega)
          have f9 : Fx (RS [10]) m0 (uI m 154 ((m.1 155 x1.toNatClampNeg).toNatClampNeg) (0 : Int32)) := f.i rfl
          have t10 := ti_addc (x := x1) (y := (1 : Int32)) (c := 1) rfl (by omega)
          exact ih _ _ w9 f9 (by show (0 : Int) ≤ ((x1 + (1 : Int32))).toInt; omega) (by show ((x1 + (1 : Int32))).toInt ≤ (3000 : Int); omega) (by show 3000 - ((x1 + (1 : Int32))).toInt < _; omega)
set_option maxHeartbeats 4000000 in
theorem s_X9_clear {ad : Nat → Nat} {d : Nat} {m : Wm} (w : WT m) : Ct ad μX9_clear d [.ref (ad 151)] m (fun r m' => WT m' ∧ Fx (RS [10]) m m' ∧ r = none ∧ ((m'.1 151 4).toInt = 0)) := by
  have f : Fx (RS [10]) m m := Fx.rf
  refine v_X9_clear  ?_
  exact (l_X9_clear (m0 := m) 1000000) _ _ w f (by show (0 : Int) ≤ (0 : Int); omega) (by show (0 : Int) ≤ (3000 : Int); omega) (by show 3000 - (0 : Int) < _; omega)
set_option maxHeartbeats 4000000 in
theorem l_X9_put {ad : Nat → Nat} {d : Nat} {m0 : Wm}  : ∀ n : Nat, (∀ (m : Wm) (x5 x6 : Int32) (y1 y3 : Int64), WT m → Fx (RS [10]) m0 m → (0 : Int) ≤ x5.toInt → x5.toInt ≤ (8191 : Int) → (0 : Int) ≤ x6.toInt → x6.toInt ≤ (8192 : Int) → ((m.1 151 4).toInt = (m0.1 151 4).toInt) → ((m.1 151 5).toInt = 0) → (8192 - x6.toInt) * 2 + 1 < (n : Int) → AW ad E0 μX9_put d (fun r m' => WT m' ∧ Fx (RS [10]) m0 m' ∧ ∃ v : Int32, r = some (.int v) ∧ (-1 : Int) ≤ v.toInt ∧ v.toInt ≤ 2999 ∧ ((m0.1 151 4).toInt ≤ (m'.1 151 4).toInt) ∧ ((m'.1 151 4).toInt ≤ (m0.1 151 4).toInt + 1) ∧ ((m'.1 151 5).toInt = 0 ∨ v.toInt = (m0.1 151 4).toInt) ∧ (3000 ≤ (m0.1 151 4).toInt ∨ 0 ≤ v.toInt)) 29 [(0, .ref (ad 151)), (1, .long y1), (3, .long y3), (5, .int x5), (6, .int x6)] [] m) ∧ (∀ (m : Wm) (x5 x6 : Int32) (y1 y3 : Int64), WT m → Fx (RS [10]) m0 m → (0 : Int) ≤ x5.toInt → x5.toInt ≤ (8191 : Int) → (0 : Int) ≤ x6.toInt → x6.toInt ≤ (8191 : Int) → ((m.1 151 4).toInt = (m0.1 151 4).toInt) → ((m.1 151 5).toInt = 0) → (8192 - x6.toInt) * 2 < (n : Int) → AW ad E0 μX9_put d (fun r m' => WT m' ∧ Fx (RS [10]) m0 m' ∧ ∃ v : Int32, r = some (.int v) ∧ (-1 : Int) ≤ v.toInt ∧ v.toInt ≤ 2999 ∧ ((m0.1 151 4).toInt ≤ (m'.1 151 4).toInt) ∧ ((m'.1 151 4).toInt ≤ (m0.1 151 4).toInt + 1) ∧ ((m'.1 151 5).toInt = 0 ∨ v.toInt = (m0.1 151 4).toInt) ∧ (3000 ≤ (m0.1 151 4).toInt ∨ 0 ≤ v.toInt)) 85 [(0, .ref (ad 151)), (1, .long y1), (3, .long y3), (5, .int x5), (6, .int x6)] [] m) ∧ (∀ (m : Wm) (x5 : Int32) (y1 y3 : Int64), WT m → Fx (RS [10]) m0 m → (0 : Int) ≤ x5.toInt → x5.toInt ≤ (8191 : Int) → ((m.1 151 4).toInt = (m0.1 151 4).toInt) → ((m.1 151 5).toInt = 0) → 0 * x5.toInt < (n : Int) → AW ad E0 μX9_put d (fun r m' => WT m' ∧ Fx (RS [10]) m0 m' ∧ ∃ v : Int32, r = some (.int v) ∧ (-1 : Int) ≤ v.toInt ∧ v.toInt ≤ 2999 ∧ ((m0.1 151 4).toInt ≤ (m'.1 151 4).toInt) ∧ ((m'.1 151 4).toInt ≤ (m0.1 151 4).toInt + 1) ∧ ((m'.1 151 5).toInt = 0 ∨ v.toInt = (m0.1 151 4).toInt) ∧ (3000 ≤ (m0.1 151 4).toInt ∨ 0 ≤ v.toInt)) 101 [(0, .ref (ad 151)), (1, .long y1), (3, .long y3), (5, .int x5)] [] m) := by
  intro n
  induction n with
  | zero =>
    refine ⟨?_, ?_, ?_⟩ <;> intros <;> exfalso <;> omega
  | succ n ih =>
    refine ⟨?_, ?_, ?_⟩
    · intro m x5 x6 y1 y3 w f j1 j2 j3 j4 j5 j6 hn
      refine g_X9_put_29  ?_
      refine ⟨?_, ?_⟩
      · intro c1
        have k2 := y_lel (n := 8192) rfl c1
        have r3 := w.at (a := 151) (k := 4) rfl
        exact ih.2.2 _ _ _ _ w f (by show (0 : Int) ≤ (x5).toInt; omega) (by show (x5).toInt ≤ (8191 : Int); omega) (by show ((m.1 151 4)).toInt = (m0.1 151 4).toInt; omega) (by show ((m.1 151 5)).toInt = 0; omega) (by show 0 * (x5).toInt < _; omega)
      · intro c4
        have k5 := y_nlel (n := 8192) rfl c4
        refine ⟨?_, ?_⟩
        · exact vpi (by omega) (by omega)
        · refine ⟨?_, ?_⟩
          · intro c6
            have r7 := w.at (a := 154) (k := x5.toNatClampNeg) rfl
            have k8 := y_eqr (n := 0) rfl c6
            have r9 := w.at (a := 151) (k := 4) rfl
            exact ih.2.2 _ _ _ _ w f (by show (0 : Int) ≤ (x5).toInt; omega) (by show (x5).toInt ≤ (8191 : Int); omega) (by show ((m.1 151 4)).toInt = (m0.1 151 4).toInt; omega) (by show ((m.1 151 5)).toInt = 0; omega) (by show 0 * (x5).toInt < _; omega)
          · intro c10
            have r11 := w.at (a := 154) (k := x5.toNatClampNeg) rfl
            have k12 := y_ner (n := 0) rfl c10
            refine ⟨?_, ?_⟩
            · exact vpi (by omega) (by omega)
            · refine ⟨?_, ?_⟩
              · have t13 := ti_subc (x := (m.1 154 x5.toNatClampNeg)) (y := (1 : Int32)) (c := 1) rfl (by omega)
                exact vpi (by omega) (by omega)
              · refine ⟨?_, ?_⟩
                · intro c14
                  have r15 := w.at (a := 151) (k := 4) rfl
                  exact ih.2.1 _ _ _ _ _ w f (by show (0 : Int) ≤ (x5).toInt; omega) (by show (x5).toInt ≤ (8191 : Int); omega) (by show (0 : Int) ≤ (x6).toInt; omega) (by show (x6).toInt ≤ (8191 : Int); omega) (by show ((m.1 151 4)).toInt = (m0.1 151 4).toInt; omega) (by show ((m.1 151 5)).toInt = 0; omega) (by show (8192 - (x6).toInt) * 2 < _; omega)
                · intro c16
                  refine ⟨?_, ?_⟩
                  · have t17 := ti_subc (x := (m.1 154 x5.toNatClampNeg)) (y := (1 : Int32)) (c := 1) rfl (by omega)
                    exact vpi (by omega) (by omega)
                  · refine ⟨?_, ?_⟩
                    · intro c18
                      have r19 := w.at (a := 151) (k := 4) rfl
                      exact ih.2.1 _ _ _ _ _ w f (by show (0 : Int) ≤ (x5).toInt; omega) (by show (x5).toInt ≤ (8191 : Int); omega) (by show (0 : Int) ≤ (x6).toInt; omega) (by show (x6).toInt ≤ (8191 : Int); omega) (by show ((m.1 151 4)).toInt = (m0.1 151 4).toInt; omega) (by show ((m.1 151 5)).toInt = 0; omega) (by show (8192 - (x6).toInt) * 2 < _; omega)
                    · intro c20
                      have t21 := ti_subc (x := (m.1 154 x5.toNatClampNeg)) (y := (1 : Int32)) (c := 1) rfl (by omega)
                      have r22 := w.at (a := 151) (k := 4) rfl
                      exact ⟨w, f, _, rfl, (by show (-1 : Int) ≤ (((m.1 154 x5.toNatClampNeg) - (1 : Int32))).toInt; omega), (by show (((m.1 154 x5.toNatClampNeg) - (1 : Int32))).toInt ≤ (2999 : Int); omega), (by show (m0.1 151 4).toInt ≤ ((m.1 151 4)).toInt; omega), (by show ((m.1 151 4)).toInt ≤ (m0.1 151 4).toInt + 1; omega), (by show ((m.1 151 5)).toInt = 0 ∨ (((m.1 154 x5.toNatClampNeg) - (1 : Int32))).toInt = (m0.1 151 4).toInt; omega), (by show 3000 ≤ (m0.1 151 4).toInt ∨ 0 ≤ (((m.1 154 x5.toNatClampNeg) - (1 : Int32))).toInt; omega)⟩
    · intro m x5 x6 y1 y3 w f j1 j2 j3 j4 j5 j6 hn
      refine g_X9_put_85  ?_
      have t1 := t_and8191 (x5 + (1 : Int32))
      have t2 := ti_addc (x := x6) (y := (1 : Int32)) (c := 1) rfl (by omega)
      have r3 := w.at (a := 151) (k := 4) rfl
      exact ih.1 _ _ _ _ _ w f (by show (0 : Int) ≤ (((x5 + (1 : Int32)) &&& (8191 : Int32))).toInt; omega) (by show (((x5 + (1 : Int32)) &&& (8191 : Int32))).toInt ≤ (8191 : Int); omega) (by show (0 : Int) ≤ ((x6 + (1 : Int32))).toInt; omega) (by show ((x6 + (1 : Int32))).toInt ≤ (8192 : Int); omega) (by show ((m.1 151 4)).toInt = (m0.1 151 4).toInt; omega) (by show ((m.1 151 5)).toInt = 0; omega) (by show (8192 - ((x6 + (1 : Int32))).toInt) * 2 + 1 < _; omega)
    · intro m x5 y1 y3 w f j1 j2 j3 j4 hn
      refine g_X9_put_101  ?_
      refine ⟨?_, ?_⟩
      · intro c1
        have r2 := w.at (a := 151) (k := 4) rfl
        have k3 := y_ltr (n := 3000) rfl c1
        refine ⟨?_, ?_⟩
        · exact vpi (by omega) (by omega)
        · refine ⟨?_, ?_⟩
          · show vp_in (m.1 151 4) 3000
            exact vpi (by omega) (by omega)
          · refine ⟨?_, ?_⟩
            · show vp_in (m.1 151 4) 3000
              exact vpi (by omega) (by omega)
            · refine ⟨?_, ?_⟩
              · exact vpi (by omega) (by omega)
              · have w4 : WT (uL m 152 ((m.1 151 4).toNatClampNeg) y1) := w.l
                have f4 : Fx (RS [10]) m0 (uL m 152 ((m.1 151 4).toNatClampNeg) y1) := f.l rfl
                have w5 : WT (uL (uL m 152 ((m.1 151 4).toNatClampNeg) y1) 153 (((uL m 152 ((m.1 151 4).toNatClampNeg) y1).1 151 4).toNatClampNeg) y3) := w4.l
                have f5 : Fx (RS [10]) m0 (uL (uL m 152 ((m.1 151 4).toNatClampNeg) y1) 153 (((uL m 152 ((m.1 151 4).toNatClampNeg) y1).1 151 4).toNatClampNeg) y3) := f4.l rfl
                have w6 : WT (uI (uL (uL m 152 ((m.1 151 4).toNatClampNeg) y1) 153 (((uL m 152 ((m.1 151 4).toNatClampNeg) y1).1 151 4).toNatClampNeg) y3) 155 (((uL (uL m 152 ((m.1 151 4).toNatClampNeg) y1) 153 (((uL m 152 ((m.1 151 4).toNatClampNeg) y1).1 151 4).toNatClampNeg) y3).1 151 4).toNatClampNeg) x5) := w5.t rfl (by show (0 : Int) ≤ (x5).toInt; omega) (by show (x5).toInt ≤ 8191; omega)
                have f6 : Fx (RS [10]) m0 (uI (uL (uL m 152 ((m.1 151 4).toNatClampNeg) y1) 153 (((uL m 152 ((m.1 151 4).toNatClampNeg) y1).1 151 4).toNatClampNeg) y3) 155 (((uL (uL m 152 ((m.1 151 4).toNatClampNeg) y1) 153 (((uL m 152 ((m.1 151 4).toNatClampNeg) y1).1 151 4).toNatClampNeg) y3).1 151 4).toNatClampNeg) x5) := f5.i rfl
                have t8 := ti_addc (x := (m.1 151 4)) (y := (1 : Int32)) (c := 1) rfl (by omega)
                have w7 : WT (uI (uI (uL (uL m 152 ((m.1 151 4).toNatClampNeg) y1) 153 (((uL m 152 ((m.1 151 4).toNatClampNeg) y1).1 151 4).toNatClampNeg) y3) 155 (((uL (uL m 152 ((m.1 151 4).toNatClampNeg) y1) 153 (((uL m 152 ((m.1 151 4).toNatClampNeg) y1).1 151 4).toNatClampNeg) y3).1 151 4).toNatClampNeg) x5) 151 4 (((uI (uL (uL m 152 ((m.1 151 4).toNatClampNeg) y1) 153 (((uL m 152 ((m.1 151 4).toNatClampNeg) y1).1 151 4).toNatClampNeg) y3) 155 (((uL (uL m 152 ((m.1 151 4).toNatClampNeg) y1) 153 (((uL m 152 ((m.1 151 4).toNatClampNeg) y1).1 151 4).toNatClampNeg) y3).1 151 4).toNatClampNeg) x5).1 151 4) + (1 : Int32))) := w6.t rfl (by show (0 : Int) ≤ (((m.1 151 4) + (1 : Int32))).toInt; omega) (by show (((m.1 151 4) + (1 : Int32))).toInt ≤ 3000; omega)
                have f7 : Fx (RS [10]) m0 (uI (uI (uL (uL m 152 ((m.1 151 4).toNatClampNeg) y1) 153 (((uL m 152 ((m.1 151 4).toNatClampNeg) y1).1 151 4).toNatClampNeg) y3) 155 (((uL (uL m 152 ((m.1 151 4).toNatClampNeg) y1) 153 (((uL m 152 ((m.1 151 4).toNatClampNeg) y1).1 151 4).toNatClampNeg) y3).1 151 4).toNatClampNeg) x5) 151 4 (((uI (uL (uL m 152 ((m.1 151 4).toNatClampNeg) y1) 153 (((uL m 152 ((m.1 151 4).toNatClampNeg) y1).1 151 4).toNatClampNeg) y3) 155 (((uL (uL m 152 ((m.1 151 4).toNatClampNeg) y1) 153 (((uL m 152 ((m.1 151 4).toNatClampNeg) y1).1 151 4).toNatClampNeg) y3).1 151 4).toNatClampNeg) x5).1 151 4) + (1 : Int32))) := f6.i rfl
                have w9 : WT (uI (uI (uI (uL (uL m 152 ((m.1 151 4).toNatClampNeg) y1) 153 (((uL m 152 ((m.1 151 4).toNatClampNeg) y1).1 151 4).toNatClampNeg) y3) 155 (((uL (uL m 152 ((m.1 151 4).toNatClampNeg) y1) 153 (((uL m 152 ((m.1 151 4).toNatClampNeg) y1).1 151 4).toNatClampNeg) y3).1 151 4).toNatClampNeg) x5) 151 4 (((uI (uL (uL m 152 ((m.1 151 4).toNatClampNeg) y1) 153 (((uL m 152 ((m.1 151 4).toNatClampNeg) y1).1 151 4).toNatClampNeg) y3) 155 (((uL (uL m 152 ((m.1 151 4).toNatClampNeg) y1) 153 (((uL m 152 ((m.1 151 4).toNatClampNeg) y1).1 151 4).toNatClampNeg) y3).1 151 4).toNatClampNeg) x5).1 151 4) + (1 : Int32))) 154 x5.toNatClampNeg ((uI (uI (uL (uL m 152 ((m.1 151 4).toNatClampNeg) y1) 153 (((uL m 152 ((m.1 151 4).toNatClampNeg) y1).1 151 4).toNatClampNeg) y3) 155 (((uL (uL m 152 ((m.1 151 4).toNatClampNeg) y1) 153 (((uL m 152 ((m.1 151 4).toNatClampNeg) y1).1 151 4).toNatClampNeg) y3).1 151 4).toNatClampNeg) x5) 151 4 (((uI (uL (uL m 152 ((m.1 151 4).toNatClampNeg) y1) 153 (((uL m 152 ((m.1 151 4).toNatClampNeg) y1).1 151 4).toNatClampNeg) y3) 155 (((uL (uL m 152 ((m.1 151 4).toNatClampNeg) y1) 153 (((uL m 152 ((m.1 151 4).toNatClampNeg) y1).1 151 4).toNatClampNeg) y3).1 151 4).toNatClampNeg) x5).1 151 4) + (1 : Int32))).1 151 4)) := w7.t rfl (by show (0 : Int) ≤ (((m.1 151 4) + (1 : Int32))).toInt; omega) (by show (((m.1 151 4) + (1 : Int32))).toInt ≤ 3000; omega)
                have f9 : Fx (RS [10]) m0 (uI (uI (uI (uL (uL m 152 ((m.1 151 4).toNatClampNeg) y1) 153 (((uL m 152 ((m.1 151 4).toNatClampNeg) y1).1 151 4).toNatClampNeg) y3) 155 (((uL (uL m 152 ((m.1 151 4).toNatClampNeg) y1) 153 (((uL m 152 ((m.1 151 4).toNatClampNeg) y1).1 151 4).toNatClampNeg) y3).1 151 4).toNatClampNeg) x5) 151 4 (((uI (uL (uL m 152 ((m.1 151 4).toNatClampNeg) y1) 153 (((uL m 152 ((m.1 151 4).toNatClampNeg) y1).1 151 4).toNatClampNeg) y3) 155 (((uL (uL m 152 ((m.1 151 4).toNatClampNeg) y1) 153 (((uL m 152 ((m.1 151 4).toNatClampNeg) y1).1 151 4).toNatClampNeg) y3).1 151 4).toNatClampNeg) x5).1 151 4) + (1 : Int32))) 154 x5.toNatClampNeg ((uI (uI (uL (uL m 152 ((m.1 151 4).toNatClampNeg) y1) 153 (((uL m 152 ((m.1 151 4).toNatClampNeg) y1).1 151 4).toNatClampNeg) y3) 155 (((uL (uL m 152 ((m.1 151 4).toNatClampNeg) y1) 153 (((uL m 152 ((m.1 151 4).toNatClampNeg) y1).1 151 4).toNatClampNeg) y3).1 151 4).toNatClampNeg) x5) 151 4 (((uI (uL (uL m 152 ((m.1 151 4).toNatClampNeg) y1) 153 (((uL m 152 ((m.1 151 4).toNatClampNeg) y1).1 151 4).toNatClampNeg) y3) 155 (((uL (uL m 152 ((m.1 151 4).toNatClampNeg) y1) 153 (((uL m 152 ((m.1 151 4).toNatClampNeg) y1).1 151 4).toNatClampNeg) y3).1 151 4).toNatClampNeg) x5).1 151 4) + (1 : Int32))).1 151 4)) := f7.i rfl
                have w10 : WT (uI (uI (uI (uI (uL (uL m 152 ((m.1 151 4).toNatClampNeg) y1) 153 (((uL m 152 ((m.1 151 4).toNatClampNeg) y1).1 151 4).toNatClampNeg) y3) 155 (((uL (uL m 152 ((m.1 151 4).toNatClampNeg) y1) 153 (((uL m 152 ((m.1 151 4).toNatClampNeg) y1).1 151 4).toNatClampNeg) y3).1 151 4).toNatClampNeg) x5) 151 4 (((uI (uL (uL m 152 ((m.1 151 4).toNatClampNeg) y1) 153 (((uL m 152 ((m.1 151 4).toNatClampNeg) y1).1 151 4).toNatClampNeg) y3) 155 (((uL (uL m 152 ((m.1 151 4).toNatClampNeg) y1) 153 (((uL m 152 ((m.1 151 4).toNatClampNeg) y1).1 151 4).toNatClampNeg) y3).1 151 4).toNatClampNeg) x5).1 151 4) + (1 : Int32))) 154 x5.toNatClampNeg ((uI (uI (uL (uL m 152 ((m.1 151 4).toNatClampNeg) y1) 153 (((uL m 152 ((m.1 151 4).toNatClampNeg) y1).1 151 4).toNatClampNeg) y3) 155 (((uL (uL m 152 ((m.1 151 4).toNatClampNeg) y1) 153 (((uL m 152 ((m.1 151 4).toNatClampNeg) y1).1 151 4).toNatClampNeg) y3).1 151 4).toNatClampNeg) x5) 151 4 (((uI (uL (uL m 152 ((m.1 151 4).toNatClampNeg) y1) 153 (((uL m 152 ((m.1 151 4).toNatClampNeg) y1).1 151 4).toNatClampNeg) y3) 155 (((uL (uL m 152 ((m.1 151 4).toNatClampNeg) y1) 153 (((uL m 152 ((m.1 151 4).toNatClampNeg) y1).1 151 4).toNatClampNeg) y3).1 151 4).toNatClampNeg) x5).1 151 4) + (1 : Int32))).1 151 4)) 151 5 (1 : Int32)) := w9.n rfl
                have f10 : Fx (RS [10]) m0 (uI (uI (uI (uI (uL (uL m 152 ((m.1 151 4).toNatClampNeg) y1) 153 (((uL m 152 ((m.1 151 4).toNatClampNeg) y1).1 151 4).toNatClampNeg) y3) 155 (((uL (uL m 152 ((m.1 151 4).toNatClampNeg) y1) 153 (((uL m 152 ((m.1 151 4).toNatClampNeg) y1).1 151 4).toNatClampNeg) y3).1 151 4).toNatClampNeg) x5) 151 4 (((uI (uL (uL m 152 ((m.1 151 4).toNatClampNeg) y1) 153 (((uL m 152 ((m.1 151 4).toNatClampNeg) y1).1 151 4).toNatClampNeg) y3) 155 (((uL (uL m 152 ((m.1 151 4).toNatClampNeg) y1) 153 (((uL m 152 ((m.1 151 4).toNatClampNeg) y1).1 151 4).toNatClampNeg) y3).1 151 4).toNatClampNeg) x5).1 151 4) + (1 : Int32))) 154 x5.toNatClampNeg ((uI (uI (uL (uL m 152 ((m.1 151 4).toNatClampNeg) y1) 153 (((uL m 152 ((m.1 151 4).toNatClampNeg) y1).1 151 4).toNatClampNeg) y3) 155 (((uL (uL m 152 ((m.1 151 4).toNatClampNeg) y1) 153 (((uL m 152 ((m.1 151 4).toNatClampNeg) y1).1 151 4).toNatClampNeg) y3).1 151 4).toNatClampNeg) x5) 151 4 (((uI (uL (uL m 152 ((m.1 151 4).toNatClampNeg) y1) 153 (((uL m 152 ((m.1 151 4).toNatClampNeg) y1).1 151 4).toNatClampNeg) y3) 155 (((uL (uL m 152 ((m.1 151 4).toNatClampNeg) y1) 153 (((uL m 152 ((m.1 151 4).toNatClampNeg) y1).1 151 4).toNatClampNeg) y3).1 151 4).toNatClampNeg) x5).1 151 4) + (1 : Int32))).1 151 4)) 151 5 (1 : Int32)) := f9.i rfl
                have t11 := ti_subc (x := ((m.1 151 4) + (1 : Int32))) (y := (1 : Int32)) (c := 1) rfl (by omega)
                exact ⟨w10, f10, _, rfl, (by show (-1 : Int) ≤ ((((m.1 151 4) + (1 : Int32)) - (1 : Int32))).toInt; omega), (by show ((((m.1 151 4) + (1 : Int32)) - (1 : Int32))).toInt ≤ (2999 : Int); omega), (by show (m0.1 151 4).toInt ≤ (((m.1 151 4) + (1 : Int32))).toInt; omega), (by show (((m.1 151 4) + (1 : Int32))).toInt ≤ (m0.1 151 4).toInt + 1; omega), (by show (1 : Int) = 0 ∨ ((((m.1 151 4) + (1 : Int32)) - (1 : Int32))).toInt = (m0.1 151 4).toInt; omega), (by show 3000 ≤ (m0.1 151 4).toInt ∨ 0 ≤ ((((m.1 151 4) + (1 : Int32)) - (1 : Int32))).toInt; omega)⟩
      · intro c12
        have r13 := w.at (a := 151) (k := 4) rfl
        have k14 := y_nltr (n := 3000) rfl c12
        exact ⟨w, f, _, rfl, (by show (-1 : Int) ≤ (-1 : Int); omega), (by show (-1 : Int) ≤ (2999 : Int); omega), (by show (m0.1 151 4).toInt ≤ ((m.1 151 4)).toInt; omega), (by show ((m.1 151 4)).toInt ≤ (m0.1 151 4).toInt + 1; omega), (by show ((m.1 151 5)).toInt = 0 ∨ (-1 : Int) = (m0.1 151 4).toInt; omega), (by show 3000 ≤ (m0.1 151 4).toInt ∨ 0 ≤ (-1 : Int); omega)⟩
set_option maxHeartbeats 4000000 in
theorem s_X9_put {ad : Nat → Nat} {d : Nat} {m : Wm} {y1 y3 : Int64} (w : WT m) : Ct ad μX9_put d [.ref (ad 151), .long y1, .long y3] m (fun r m' => WT m' ∧ Fx (RS [10]) m m' ∧ ∃ v : Int32, r = some (.int v) ∧ (-1 : Int) ≤ v.toInt ∧ v.toInt ≤ 2999 ∧ ((m.1 151 4).toInt ≤ (m'.1 151 4).toInt) ∧ ((m'.1 151 4).toInt ≤ (m.1 151 4).toInt + 1) ∧ ((m'.1 151 5).toInt = 0 ∨ v.toInt = (m.1 151 4).toInt) ∧ (3000 ≤ (m.1 151 4).toInt ∨ 0 ≤ v.toInt)) := by
  have f : Fx (RS [10]) m m := Fx.rf
  refine v_X9_put  ?_
  have w1 : WT (uI m 151 5 (0 : Int32)) := w.n rfl
  have f1 : Fx (RS [10]) m (uI m 151 5 (0 : Int32)) := f.i rfl
  have t2 := t_and8191 ((((y1 * (-7046029254386353131 : Int64)) ^^^ (y3 * (-4417276706812531889 : Int64))).toUInt64 >>> ((40 : Int32).toInt64.toUInt64 &&& (Int64.toUInt64 63))).toInt64.toInt32)
  have r3 := w.at (a := 151) (k := 4) rfl
  exact (l_X9_put (m0 := m) 1000000).1 _ _ _ _ _ w1 f1 (by show (0 : Int) ≤ (((((y1 * (-7046029254386353131 : Int64)) ^^^ (y3 * (-4417276706812531889 : Int64))).toUInt64 >>> ((40 : Int32).toInt64.toUInt64 &&& (Int64.toUInt64 63))).toInt64.toInt32 &&& (8191 : Int32))).toInt; omega) (by show (((((y1 * (-7046029254386353131 : Int64)) ^^^ (y3 * (-4417276706812531889 : Int64))).toUInt64 >>> ((40 : Int32).toInt64.toUInt64 &&& (Int64.toUInt64 63))).toInt64.toInt32 &&& (8191 : Int32))).toInt ≤ (8191 : Int); omega) (by show (0 : Int) ≤ (0 : Int); omega) (by show (0 : Int) ≤ (8192 : Int); omega) (by show ((m.1 151 4)).toInt = (m.1 151 4).toInt; omega) (by show (0 : Int) = 0; omega) (by show (8192 - (0 : Int)) * 2 + 1 < _; omega)
set_option maxHeartbeats 4000000 in
theorem l_X9_packed {ad : Nat → Nat} {d : Nat} {m0 : Wm} {b0 ρ0 : Nat} (hb0 : SS b0 ρ0) : ∀ n : Nat, (∀ (m : Wm) (x1 x4 : Int32) (y2 : Int64), WT m → Fx (RS []) m0 m → (-1 : Int) ≤ x4.toInt → x4.toInt ≤ (3 : Int) → x4.toInt + 1 < (n : Int) → AW ad E0 μX9_packed (d + 1) (fun r m' => WT m' ∧ Fx (RS []) m0 m' ∧ ∃ v : Int64, r = some (.long v)) 5 [(0, .ref (ad b0)), (1, .int x1), (2, .long y2), (4, .int x4)] [] m) := by
  intro n
  induction n with
  | zero =>
    intros
    exfalso
    omega
  | succ n ih =>
    intro m x1 x4 y2 w f j1 j2 hn
    refine g_X9_packed_5 hb0.1 ?_
    refine ⟨?_, ?_⟩
    · intro c1
      have k2 := y_ltr (n := 0) rfl c1
      exact ⟨w, f, _, rfl⟩
    · intro c3
      have k4 := y_nltr (n := 0) rfl c3
      refine (s_X8_skillOf w hb0).to ?_
      rintro _ m1 ⟨w_m1, g5, v2, rfl⟩
      have f_m1 : Fx (RS []) m0 m1 := f.tr g5 (RS_sub rfl)
      refine ⟨v2, rfl, ?_⟩
      have t6 := ti_addc (x := x4) (y := (-1 : Int32)) (c := -1) rfl (by omega)
      exact ih _ _ _ _ w_m1 f_m1 (by show (-1 : Int) ≤ ((x4 + (-1 : Int32))).toInt; omega) (by show ((x4 + (-1 : Int32))).toInt ≤ (3 : Int); omega) (by show ((x4 + (-1 : Int32))).toInt + 1 < _; omega)
set_option maxHeartbeats 4000000 in
theorem s_X9_packed {ad : Nat → Nat} {d : Nat} {m : Wm} {b0 ρ0 : Nat} {x1 : Int32} (w : WT m) (hb0 : SS b0 ρ0) : Ct ad μX9_packed (d + 1) [.ref (ad b0), .int x1] m (fun r m' => WT m' ∧ Fx (RS []) m m' ∧ ∃ v : Int64, r = some (.long v)) := by
  have f : Fx (RS []) m m := Fx.rf
  refine v_X9_packed hb0.1 ?_
  exact (l_X9_packed (m0 := m) hb0 1000000) _ _ _ _ w f (by show (-1 : Int) ≤ (3 : Int); omega) (by show (3 : Int) ≤ (3 : Int); omega) (by show (3 : Int) + 1 < _; omega)
set_option maxHeartbeats 4000000 in
theorem l_X9_putSkillsOf {ad : Nat → Nat} {d : Nat} {m0 : Wm} {b1 ρ1 : Nat} (hb1 : SS b1 ρ1) : ∀ n : Nat, (∀ (m : Wm) (x6 : Int32) (y2 y4 : Int64), WT m → Fx (RS [10]) m0 m → (0 : Int) ≤ x6.toInt → x6.toInt ≤ (4 : Int) → ((m.1 151 4).toInt = (m0.1 151 4).toInt) → 4 - x6.toInt < (n : Int) → AW ad E0 μX9_putSkillsOf (d + 2) (fun r m' => WT m' ∧ Fx (RS [10]) m0 m' ∧ ∃ v : Int32, r = some (.int v) ∧ (-1 : Int) ≤ v.toInt ∧ v.toInt ≤ 2999 ∧ ((m0.1 151 4).toInt ≤ (m'.1 151 4).toInt) ∧ ((m'.1 151 4).toInt ≤ (m0.1 151 4).toInt + 1) ∧ ((m'.1 151 5).toInt = 0 ∨ v.toInt = (m0.1 151 4).toInt) ∧ (3000 ≤ (m0.1 151 4).toInt ∨ 0 ≤ v.toInt)) 8 [(0, .ref (ad 151)), (1, .ref (ad b1)), (2, .long y2), (4, .long y4), (6, .int x6)] [] m) := by
  intro n
  induction n with
  | zero =>
    intros
    exfalso
    omega
  | succ n ih =>
    intro m x6 y2 y4 w f j1 j2 j3 hn
    refine g_X9_putSkillsOf_8 hb1.1 ?_
    refine ⟨?_, ?_⟩
    · intro c1
      have k2 := y_lel (n := 4) rfl c1
      refine (s_X9_put w).to ?_
      rintro _ m1 ⟨w_m1, g3, v2, rfl, p8, p9, p4, p5, p6, p7⟩
      have f_m1 : Fx (RS [10]) m0 m1 := f.tr g3 (RS_sub rfl)
      have p10 : ((m.1 151 4)).toInt ≤ (m1.1 151 4).toInt := p4
      clear p4
      have p11 : (m1.1 151 4).toInt ≤ ((m.1 151 4)).toInt + 1 := p5
      clear p5
      have p12 : (m1.1 151 5).toInt = 0 ∨ v2.toInt = ((m.1 151 4)).toInt := p6
      clear p6
      have p13 : 3000 ≤ ((m.1 151 4)).toInt ∨ 0 ≤ v2.toInt := p7
      clear p7
      refine ⟨v2, rfl, ?_⟩
      have r14 := w_m1.at (a := 151) (k := 4) rfl
      exact ⟨w_m1, f_m1, _, rfl, (by show (-1 : Int) ≤ (v2).toInt; omega), (by show (v2).toInt ≤ (2999 : Int); omega), (by show (m0.1 151 4).toInt ≤ ((m1.1 151 4)).toInt; omega), (by show ((m1.1 151 4)).toInt ≤ (m0.1 151 4).toInt + 1; omega), (by show ((m1.1 151 5)).toInt = 0 ∨ (v2).toInt = (m0.1 151 4).toInt; omega), (by show 3000 ≤ (m0.1 151 4).toInt ∨ 0 ≤ (v2).toInt; omega)⟩
    · intro c15
      have k16 := y_nlel (n := 4) rfl c15
      refine (s_X9_packed w hb1).to ?_
      rintro _ m3 ⟨w_m3, g17, w4, rfl⟩
      have f_m3 : Fx (RS [10]) m0 m3 := f.tr g17 (RS_sub rfl)
      have e18 : (m3.1 151 4).toInt = ((m.1 151 4)).toInt := congrArg _ (g17.at (a := 151) (k := 4) (by decide))
      refine ⟨w4, rfl, ?_⟩
      refine (s_X9_packed w_m3 hb1).to ?_
      rintro _ m5 ⟨w_m5, g19, w6, rfl⟩
      have f_m5 : Fx (RS [10]) m0 m5 := f_m3.tr g19 (RS_sub rfl)
      have e20 : (m5.1 151 4).toInt = ((m3.1 151 4)).toInt := congrArg _ (g19.at (a := 151) (k := 4) (by decide))
      refine ⟨w6, rfl, ?_⟩
      have t21 := ti_addc (x := x6) (y := (1 : Int32)) (c := 1) rfl (by omega)
      have r22 := w_m5.at (a := 151) (k := 4) rfl
      exact ih _ _ _ _ w_m5 f_m5 (by show (0 : Int) ≤ ((x6 + (1 : Int32))).toInt; omega) (by show ((x6 + (1 : Int32))).toInt ≤ (4 : Int); omega) (by show ((m5.1 151 4)).toInt = (m0.1 151 4).toInt; omega) (by show 4 - ((x6 + (1 : Int32))).toInt < _; omega)
set_option maxHeartbeats 4000000 in
theorem s_X9_putSkillsOf {ad : Nat → Nat} {d : Nat} {m : Wm} {b1 ρ1 : Nat} (w : WT m) (hb1 : SS b1 ρ1) : Ct ad μX9_putSkillsOf (d + 2) [.ref (ad 151), .ref (ad b1)] m (fun r m' => WT m' ∧ Fx (RS [10]) m m' ∧ ∃ v : Int32, r = some (.int v) ∧ (-1 : Int) ≤ v.toInt ∧ v.toInt ≤ 2999 ∧ ((m.1 151 4).toInt ≤ (m'.1 151 4).toInt) ∧ ((m'.1 151 4).toInt ≤ (m.1 151 4).toInt + 1) ∧ ((m'.1 151 5).toInt = 0 ∨ v.toInt = (m.1 151 4).toInt) ∧ (3000 ≤ (m.1 151 4).toInt ∨ 0 ≤ v.toInt)) := by
  have f : Fx (RS [10]) m m := Fx.rf
  refine v_X9_putSkillsOf hb1.1 ?_
  have r1 := w.at (a := 151) (k := 4) rfl
  exact (l_X9_putSkillsOf (m0 := m) hb1 1000000) _ _ _ _ w f (by show (0 : Int) ≤ (0 : Int); omega) (by show (0 : Int) ≤ (4 : Int); omega) (by show ((m.1 151 4)).toInt = (m.1 151 4).toInt; omega) (by show 4 - (0 : Int) < _; omega)
set_option maxHeartbeats 4000000 in
theorem s_X9_without {ad : Nat → Nat} {d : Nat} {m : Wm} {x2 : Int32} {y0 : Int64} (w : WT m) : Ct ad μX9_without d [.long y0, .int x2] m (fun r m' => WT m' ∧ Fx (RS []) m m' ∧ ∃ v : Int64, r = some (.long v)) := by
  have f : Fx (RS []) m m := Fx.rf
  refine v_X9_without  ?_
  exact ⟨w, f, _, rfl⟩
set_option maxHeartbeats 4000000 in
theorem l_X9_skillIn {ad : Nat → Nat} {d : Nat} {m0 : Wm}  : ∀ n : Nat, (∀ (m : Wm) (x2 x3 : Int32) (z0 : Int64), WT m → Fx (RS []) m0 m → 0 * x2.toInt < (n : Int) → AW ad E0 μX9_skillIn d (fun r m' => WT m' ∧ Fx (RS []) m0 m' ∧ ∃ v : Int32, r = some (.int v) ∧ (0 : Int) ≤ v.toInt ∧ v.toInt ≤ 7) 20 [(2, .int x2), (3, .int x3)] [.long z0] m) := by
  intro n
  induction n with
  | zero =>
    intros
    exfalso
    omega
  | succ n ih =>
    intro m x2 x3 z0 w f  hn
    refine g_X9_skillIn_20  ?_
    have t1 := t_and7 ((z0.toUInt64 >>> ((((x2 - ((x2 / (4 : Int32)) * (4 : Int32))) * (12 : Int32)) + ((3 : Int32) * x3)).toInt64.toUInt64 &&& (Int64.toUInt64 63))).toInt64.toInt32)
    exact ⟨w, f, _, rfl, (by show (0 : Int) ≤ (((z0.toUInt64 >>> ((((x2 - ((x2 / (4 : Int32)) * (4 : Int32))) * (12 : Int32)) + ((3 : Int32) * x3)).toInt64.toUInt64 &&& (Int64.toUInt64 63))).toInt64.toInt32 &&& (7 : Int32))).toInt; omega), (by show (((z0.toUInt64 >>> ((((x2 - ((x2 / (4 : Int32)) * (4 : Int32))) * (12 : Int32)) + ((3 : Int32) * x3)).toInt64.toUInt64 &&& (Int64.toUInt64 63))).toInt64.toInt32 &&& (7 : Int32))).toInt ≤ (7 : Int); omega)⟩
set_option maxHeartbeats 4000000 in
theorem s_X9_skillIn {ad : Nat → Nat} {d : Nat} {m : Wm} {x1 x2 x3 : Int32} (w : WT m) (i1 : (0 : Int) ≤ x1.toInt) (i2 : x1.toInt ≤ (2999 : Int)) : Ct ad μX9_skillIn d [.ref (ad 151), .int x1, .int x2, .int x3] m (fun r m' => WT m' ∧ Fx (RS []) m m' ∧ ∃ v : Int32, r = some (.int v) ∧ (0 : Int) ≤ v.toInt ∧ v.toInt ≤ 7) := by
  have f : Fx (RS []) m m := Fx.rf
  refine v_X9_skillIn  ?_
  refine ⟨?_, ?_⟩
  · intro c1
    have k2 := y_lel (n := 4) rfl c1
    refine ⟨?_, ?_⟩
    · exact vpi (by omega) (by omega)
    · exact (l_X9_skillIn (m0 := m) 1000000) _ _ _ _ w f (by show 0 * (x2).toInt < _; omega)
  · intro c3
    have k4 := y_nlel (n := 4) rfl c3
    refine ⟨?_, ?_⟩
    · exact vpi (by omega) (by omega)
    · exact (l_X9_skillIn (m0 := m) 1000000) _ _ _ _ w f (by show 0 * (x2).toInt < _; omega)
set_option maxHeartbeats 4000000 in
theorem l_X9_unpack {ad : Nat → Nat} {d : Nat} {m0 : Wm} {b3 ρ3 : Nat} (hb3 : SS b3 ρ3) : ∀ n : Nat, (∀ (m : Wm) (x1 x2 x4 : Int32), WT m → Fx (RS (ρ3 :: [])) m0 m → (0 : Int) ≤ x1.toInt → x1.toInt ≤ (2999 : Int) → (0 : Int) ≤ x4.toInt → x4.toInt ≤ (4 : Int) → 4 - x4.toInt < (n : Int) → AW ad E0 μX9_unpack (d + 1) (fun r m' => WT m' ∧ Fx (RS (ρ3 :: [])) m0 m' ∧ r = none) 3 [(0, .ref (ad 151)), (1, .int x1), (2, .int x2), (3, .ref (ad b3)), (4, .int x4)] [] m) := by
  intro n
  induction n with
  | zero =>
    intros
    exfalso
    omega
  | succ n ih =>
    intro m x1 x2 x4 w f j1 j2 j3 j4 hn
    refine g_X9_unpack_3 hb3.1 ?_
    refine ⟨?_, ?_⟩
    · intro c1
      have k2 := y_lel (n := 4) rfl c1
      exact ⟨w, f, rfl⟩
    · intro c3
      have k4 := y_nlel (n := 4) rfl c3
      refine (s_X9_skillIn w (by show (0 : Int) ≤ (x1).toInt; omega) (by show (x1).toInt ≤ (2999 : Int); omega)).to ?_
      rintro _ m1 ⟨w_m1, g5, v2, rfl, p6, p7⟩
      have f_m1 : Fx (RS (ρ3 :: [])) m0 m1 := f.tr g5 (RS_tl rfl)
      refine ⟨v2, rfl, ?_⟩
      refine (s_X8_putSkill w_m1 hb3).to ?_
      rintro _ m3 ⟨w_m3, g8, rfl⟩
      have f_m3 : Fx (RS (ρ3 :: [])) m0 m3 := f_m1.tr g8 (RS_cons rfl)
      refine ⟨rfl, ?_⟩
      have t9 := ti_addc (x := x4) (y := (1 : Int32)) (c := 1) rfl (by omega)
      exact ih _ _ _ _ w_m3 f_m3 (by show (0 : Int) ≤ (x1).toInt; omega) (by show (x1).toInt ≤ (2999 : Int); omega) (by show (0 : Int) ≤ ((x4 + (1 : Int32))).toInt; omega) (by show ((x4 + (1 : Int32))).toInt ≤ (4 : Int); omega) (by show 4 - ((x4 + (1 : Int32))).toInt < _; omega)
set_option maxHeartbeats 4000000 in
theorem s_X9_unpack {ad : Nat → Nat} {d : Nat} {m : Wm} {b3 ρ3 : Nat} {x1 x2 : Int32} (w : WT m) (hb3 : SS b3 ρ3) (i1 : (0 : Int) ≤ x1.toInt) (i2 : x1.toInt ≤ (2999 : Int)) : Ct ad μX9_unpack (d + 1) [.ref (ad 151), .int x1, .int x2, .ref (ad b3)] m (fun r m' => WT m' ∧ Fx (RS (ρ3 :: [])) m m' ∧ r = none) := by
  have f : Fx (RS (ρ3 :: [])) m m := Fx.rf
  refine v_X9_unpack hb3.1 ?_
  exact (l_X9_unpack (m0 := m) hb3 1000000) _ _ _ _ w f (by show (0 : Int) ≤ (x1).toInt; omega) (by show (x1).toInt ≤ (2999 : Int); omega) (by show (0 : Int) ≤ (0 : Int); omega) (by show (0 : Int) ≤ (4 : Int); omega) (by show 4 - (0 : Int) < _; omega)
set_option maxHeartbeats 4000000 in
theorem l_X9_total {ad : Nat → Nat} {d : Nat} {m0 : Wm}  : ∀ n : Nat, (∀ (m : Wm) (x1 x2 x3 : Int32), WT m → Fx (RS []) m0 m → (0 : Int) ≤ x1.toInt → x1.toInt ≤ (2999 : Int) → (0 : Int) ≤ x3.toInt → x3.toInt ≤ (8 : Int) → (8 - x3.toInt) * 10 + 5 < (n : Int) → AW ad E0 μX9_total (d + 1) (fun r m' => WT m' ∧ Fx (RS []) m0 m' ∧ ∃ v : Int32, r = some (.int v)) 4 [(0, .ref (ad 151)), (1, .int x1), (2, .int x2), (3, .int x3)] [] m) ∧ (∀ (m : Wm) (x1 x2 x3 x4 : Int32), WT m → Fx (RS []) m0 m → (0 : Int) ≤ x1.toInt → x1.toInt ≤ (2999 : Int) → (0 : Int) ≤ x3.toInt → x3.toInt ≤ (7 : Int) → (0 : Int) ≤ x4.toInt → x4.toInt ≤ (4 : Int) → (8 - x3.toInt) * 10 - x4.toInt < (n : Int) → AW ad E0 μX9_total (d + 1) (fun r m' => WT m' ∧ Fx (RS []) m0 m' ∧ ∃ v : Int32, r = some (.int v)) 13 [(0, .ref (ad 151)), (1, .int x1), (2, .int x2), (3, .int x3), (4, .int x4)] [] m) := by
  intro n
  induction n with
  | zero =>
    refine ⟨?_, ?_⟩ <;> intros <;> exfalso <;> omega
  | succ n ih =>
    refine ⟨?_, ?_⟩
    · intro m x1 x2 x3 w f j1 j2 j3 j4 hn
      refine g_X9_total_4  ?_
      refine ⟨?_, ?_⟩
      · intro c1
        have k2 := y_lel (n := 8) rfl c1
        exact ⟨w, f, _, rfl⟩
      · intro c3
        have k4 := y_nlel (n := 8) rfl c3
        exact ih.2 _ _ _ _ _ w f (by show (0 : Int) ≤ (x1).toInt; omega) (by show (x1).toInt ≤ (2999 : Int); omega) (by show (0 : Int) ≤ (x3).toInt; omega) (by show (x3).toInt ≤ (7 : Int); omega) (by show (0 : Int) ≤ (0 : Int); omega) (by show (0 : Int) ≤ (4 : Int); omega) (by show (8 - (x3).toInt) * 10 - (0 : Int) < _; omega)
    · intro m x1 x2 x3 x4 w f j1 j2 j3 j4 j5 j6 hn
      refine g_X9_total_13  ?_
      refine ⟨?_, ?_⟩
      · intro c1
        have k2 := y_lel (n := 4) rfl c1
        have t3 := ti_addc (x := x3) (y := (1 : Int32)) (c := 1) rfl (by omega)
        exact ih.1 _ _ _ _ w f (by show (0 : Int) ≤ (x1).toInt; omega) (by show (x1).toInt ≤ (2999 : Int); omega) (by show (0 : Int) ≤ ((x3 + (1 : Int32))).toInt; omega) (by show ((x3 + (1 : Int32))).toInt ≤ (8 : Int); omega) (by show (8 - ((x3 + (1 : Int32))).toInt) * 10 + 5 < _; omega)
      · intro c4
        have k5 := y_nlel (n := 4) rfl c4
        refine (s_X9_skillIn w (by show (0 : Int) ≤ (x1).toInt; omega) (by show (x1).toInt ≤ (2999 : Int); omega)).to ?_
        rintro _ m1 ⟨w_m1, g6, v2, rfl, p7, p8⟩
        have f_m1 : Fx (RS []) m0 m1 := f.tr g6 (RS_sub rfl)
        refine ⟨v2, rfl, ?_⟩
        have t9 := ti_addc (x := x4) (y := (1 : Int32)) (c := 1) rfl (by omega)
        exact ih.2 _ _ _ _ _ w_m1 f_m1 (by show (0 : Int) ≤ (x1).toInt; omega) (by show (x1).toInt ≤ (2999 : Int); omega) (by show (0 : Int) ≤ (x3).toInt; omega) (by show (x3).toInt ≤ (7 : Int); omega) (by show (0 : Int) ≤ ((x4 + (1 : Int32))).toInt; omega) (by show ((x4 + (1 : Int32))).toInt ≤ (4 : Int); omega) (by show (8 - (x3).toInt) * 10 - ((x4 + (1 : Int32))).toInt < _; omega)
set_option maxHeartbeats 4000000 in
theorem s_X9_total {ad : Nat → Nat} {d : Nat} {m : Wm} {x1 : Int32} (w : WT m) (i1 : (0 : Int) ≤ x1.toInt) (i2 : x1.toInt ≤ (2999 : Int)) : Ct ad μX9_total (d + 1) [.ref (ad 151), .int x1] m (fun r m' => WT m' ∧ Fx (RS []) m m' ∧ ∃ v : Int32, r = some (.int v)) := by
  have f : Fx (RS []) m m := Fx.rf
  refine v_X9_total  ?_
  exact (l_X9_total (m0 := m) 1000000).1 _ _ _ _ w f (by show (0 : Int) ≤ (x1).toInt; omega) (by show (x1).toInt ≤ (2999 : Int); omega) (by show (0 : Int) ≤ (0 : Int); omega) (by show (0 : Int) ≤ (8 : Int); omega) (by show (8 - (0 : Int)) * 10 + 5 < _; omega)
set_option maxHeartbeats 4000000 in
theorem l_X9_firstWith {ad : Nat → Nat} {d : Nat} {m0 : Wm}  : ∀ n : Nat, (∀ (m : Wm) (x1 x2 x3 x4 : Int32), WT m → Fx (RS []) m0 m → (0 : Int) ≤ x4.toInt → x4.toInt ≤ (3000 : Int) → 3000 - x4.toInt < (n : Int) → AW ad E0 μX9_firstWith (d + 1) (fun r m' => WT m' ∧ Fx (RS []) m0 m' ∧ ∃ v : Int32, r = some (.int v) ∧ (-1 : Int) ≤ v.toInt ∧ v.toInt ≤ 2999) 3 [(0, .ref (ad 151)), (1, .int x1), (2, .int x2), (3, .int x3), (4, .int x4)] [] m) := by
  intro n
  induction n with
  | zero =>
    intros
    exfalso
    omega
  | succ n ih =>
    intro m x1 x2 x3 x4 w f j1 j2 hn
    refine g_X9_firstWith_3  ?_
    refine ⟨?_, ?_⟩
    · intro c1
      have r2 := w.at (a := 151) (k := 4) rfl
      have k3 := z_le c1
      exact ⟨w, f, _, rfl, (by show (-1 : Int) ≤ (-1 : Int); omega), (by show (-1 : Int) ≤ (2999 : Int); omega)⟩
    · intro c4
      have r5 := w.at (a := 151) (k := 4) rfl
      have k6 := z_nle c4
      refine (s_X9_skillIn w (by show (0 : Int) ≤ (x4).toInt; omega) (by show (x4).toInt ≤ (2999 : Int); omega)).to ?_
      rintro _ m1 ⟨w_m1, g7, v2, rfl, p8, p9⟩
      have f_m1 : Fx (RS []) m0 m1 := f.tr g7 (RS_sub rfl)
      refine ⟨v2, rfl, ?_⟩
      refine ⟨?_, ?_⟩
      · intro c10
        have k11 := z_lt c10
        have t12 := ti_addc (x := x4) (y := (1 : Int32)) (c := 1) rfl (by omega)
        exact ih _ _ _ _ _ w_m1 f_m1 (by show (0 : Int) ≤ ((x4 + (1 : Int32))).toInt; omega) (by show ((x4 + (1 : Int32))).toInt ≤ (3000 : Int); omega) (by show 3000 - ((x4 + (1 : Int32))).toInt < _; omega)
      · intro c13
        have k14 := z_nlt c13
        exact ⟨w_m1, f_m1, _, rfl, (by show (-1 : Int) ≤ (x4).toInt; omega), (by show (x4).toInt ≤ (2999 : Int); omega)⟩
set_option maxHeartbeats 4000000 in
theorem s_X9_firstWith {ad : Nat → Nat} {d : Nat} {m : Wm} {x1 x2 x3 : Int32} (w : WT m) : Ct ad μX9_firstWith (d + 1) [.ref (ad 151), .int x1, .int x2, .int x3] m (fun r m' => WT m' ∧ Fx (RS []) m m' ∧ ∃ v : Int32, r = some (.int v) ∧ (-1 : Int) ≤ v.toInt ∧ v.toInt ≤ 2999) := by
  have f : Fx (RS []) m m := Fx.rf
  refine v_X9_firstWith  ?_
  exact (l_X9_firstWith (m0 := m) 1000000) _ _ _ _ _ w f (by show (0 : Int) ≤ (0 : Int); omega) (by show (0 : Int) ≤ (3000 : Int); omega) (by show 3000 - (0 : Int) < _; omega)
set_option maxHeartbeats 4000000 in
theorem l_X6_unpackAll {ad : Nat → Nat} {d : Nat} {m0 : Wm}  : ∀ n : Nat, (∀ (m : Wm) (x2 x3 : Int32), WT m → Fx (RS [11]) m0 m → (0 : Int) ≤ x2.toInt → x2.toInt ≤ (2999 : Int) → (0 : Int) ≤ x3.toInt → x3.toInt ≤ (8 : Int) → 8 - x3.toInt < (n : Int) → AW ad E0 μX6_unpackAll (d + 2) (fun r m' => WT m' ∧ Fx (RS [11]) m0 m' ∧ r = none) 2 [(0, .ref (ad 156)), (1, .ref (ad 3)), (2, .int x2), (3, .int x3)] [] m) := by
  intro n
  induction n with
  | zero =>
    intros
    exfalso
    omega
  | succ n ih =>
    intro m x2 x3 w f j1 j2 j3 j4 hn
    refine g_X6_unpackAll_2  ?_
    refine ⟨?_, ?_⟩
    · intro c1
      have r2 := w.at (a := 3) (k := 3) rfl
      have k3 := z_le c1
      exact ⟨w, f, rfl⟩
    · intro c4
      have r5 := w.at (a := 3) (k := 3) rfl
      have k6 := z_nle c4
      refine (s_X9_unpack w SS_157 (by show (0 : Int) ≤ (x2).toInt; omega) (by show (x2).toInt ≤ (2999 : Int); omega)).to ?_
      rintro _ m1 ⟨w_m1, g7, rfl⟩
      have f_m1 : Fx (RS [11]) m0 m1 := f.tr g7 (RS_sub rfl)
      refine ⟨rfl, ?_⟩
      have t8 := ti_addc (x := x3) (y := (1 : Int32)) (c := 1) rfl (by omega)
      exact ih _ _ _ w_m1 f_m1 (by show (0 : Int) ≤ (x2).toInt; omega) (by show (x2).toInt ≤ (2999 : Int); omega) (by show (0 : Int) ≤ ((x3 + (1 : Int32))).toInt; omega) (by show ((x3 + (1 : Int32))).toInt ≤ (8 : Int); omega) (by show 8 - ((x3 + (1 : Int32))).toInt < _; omega)
set_option maxHeartbeats 4000000 in
theorem s_X6_unpackAll {ad : Nat → Nat} {d : Nat} {m : Wm} {x2 : Int32} (w : WT m) (i1 : (0 : Int) ≤ x2.toInt) (i2 : x2.toInt ≤ (2999 : Int)) : Ct ad μX6_unpackAll (d + 2) [.ref (ad 156), .ref (ad 3), .int x2] m (fun r m' => WT m' ∧ Fx (RS [11]) m m' ∧ r = none) := by
  have f : Fx (RS [11]) m m := Fx.rf
  refine v_X6_unpackAll  ?_
  exact (l_X6_unpackAll (m0 := m) 1000000) _ _ _ w f (by show (0 : Int) ≤ (x2).toInt; omega) (by show (x2).toInt ≤ (2999 : Int); omega) (by show (0 : Int) ≤ (0 : Int); omega) (by show (0 : Int) ≤ (8 : Int); omega) (by show 8 - (0 : Int) < _; omega)
set_option maxHeartbeats 4000000 in
theorem l_X6_halfAfter {ad : Nat → Nat} {d : Nat} {m0 : Wm}  : ∀ n : Nat, (∀ (m : Wm) (x2 x3 x4 : Int32) (z0 : Int64), WT m → Fx (RS []) m0 m → 0 * x2.toInt + 2 < (n : Int) → AW ad E0 μX6_halfAfter (d + 2) (fun r m' => WT m' ∧ Fx (RS []) m0 m' ∧ ∃ v : Int64, r = some (.long v)) 26 [(0, .ref (ad 156)), (2, .int x2), (3, .int x3), (4, .int x4)] [.long z0] m) ∧ (∀ (m : Wm) (x2 x3 x4 s0 : Int32) (y5 : Int64), WT m → Fx (RS []) m0 m → 0 * x2.toInt + 1 < (n : Int) → AW ad E0 μX6_halfAfter (d + 2) (fun r m' => WT m' ∧ Fx (RS []) m0 m' ∧ ∃ v : Int64, r = some (.long v)) 38 [(0, .ref (ad 156)), (2, .int x2), (3, .int x3), (4, .int x4), (5, .long y5)] [.int s0] m) ∧ (∀ (m : Wm) (x3 x4 s0 : Int32) (y5 : Int64), WT m → Fx (RS []) m0 m → 0 * x3.toInt < (n : Int) → AW ad E0 μX6_halfAfter (d + 2) (fun r m' => WT m' ∧ Fx (RS []) m0 m' ∧ ∃ v : Int64, r = some (.long v)) 70 [(0, .ref (ad 156)), (3, .int x3), (4, .int x4), (5, .long y5)] [.int s0] m) := by
  intro n
  induction n with
  | zero =>
    refine ⟨?_, ?_, ?_⟩ <;> intros <;> exfalso <;> omega
  | succ n ih =>
    refine ⟨?_, ?_, ?_⟩
    · intro m x2 x3 x4 z0 w f  hn
      refine g_X6_halfAfter_26  ?_
      refine ⟨?_, ?_⟩
      · intro c1
        have k2 := y_ltr (n := 4) rfl c1
        exact ih.2.1 _ _ _ _ _ _ w f (by show 0 * (x2).toInt + 1 < _; omega)
      · intro c3
        have k4 := y_nltr (n := 4) rfl c3
        exact ih.2.1 _ _ _ _ _ _ w f (by show 0 * (x2).toInt + 1 < _; omega)
    · intro m x2 x3 x4 s0 y5 w f  hn
      refine g_X6_halfAfter_38  ?_
      refine ⟨?_, ?_⟩
      · intro c1
        have k2 := z_ne c1
        refine ⟨?_, ?_⟩
        · intro c3
          have k4 := y_ltr (n := 4) rfl c3
          exact ih.2.2 _ _ _ _ _ w f (by show 0 * (x3).toInt < _; omega)
        · intro c5
          have k6 := y_nltr (n := 4) rfl c5
          exact ih.2.2 _ _ _ _ _ w f (by show 0 * (x3).toInt < _; omega)
      · intro c7
        have k8 := z_eq c7
        refine (s_X9_without w).to ?_
        rintro _ m1 ⟨w_m1, g9, w2, rfl⟩
        have f_m1 : Fx (RS []) m0 m1 := f.tr g9 (RS_sub rfl)
        refine ⟨w2, rfl, ?_⟩
        refine (s_X9_packed w_m1 SS_157).to ?_
        rintro _ m3 ⟨w_m3, g10, w4, rfl⟩
        have f_m3 : Fx (RS []) m0 m3 := f_m1.tr g10 (RS_sub rfl)
        refine ⟨w4, rfl, ?_⟩
        refine ⟨?_, ?_⟩
        · intro c11
          have k12 := y_ltr (n := 4) rfl c11
          exact ih.2.2 _ _ _ _ _ w_m3 f_m3 (by show 0 * (x3).toInt < _; omega)
        · intro c13
          have k14 := y_nltr (n := 4) rfl c13
          exact ih.2.2 _ _ _ _ _ w_m3 f_m3 (by show 0 * (x3).toInt < _; omega)
    · intro m x3 x4 s0 y5 w f  hn
      refine g_X6_halfAfter_70  ?_
      refine ⟨?_, ?_⟩
      · intro c1
        have k2 := z_ne c1
        exact ⟨w, f, _, rfl⟩
      · intro c3
        have k4 := z_eq c3
        refine (s_X9_without w).to ?_
        rintro _ m1 ⟨w_m1, g5, w2, rfl⟩
        have f_m1 : Fx (RS []) m0 m1 := f.tr g5 (RS_sub rfl)
        refine ⟨w2, rfl, ?_⟩
        refine (s_X9_packed w_m1 SS_157).to ?_
        rintro _ m3 ⟨w_m3, g6, w4, rfl⟩
        have f_m3 : Fx (RS []) m0 m3 := f_m1.tr g6 (RS_sub rfl)
        refine ⟨w4, rfl, ?_⟩
        exact ⟨w_m3, f_m3, _, rfl⟩
set_option maxHeartbeats 4000000 in
theorem s_X6_halfAfter {ad : Nat → Nat} {d : Nat} {m : Wm} {x1 x2 x3 x4 : Int32} (w : WT m) (i1 : (0 : Int) ≤ x1.toInt) (i2 : x1.toInt ≤ (2999 : Int)) : Ct ad μX6_halfAfter (d + 2) [.ref (ad 156), .int x1, .int x2, .int x3, .int x4] m (fun r m' => WT m' ∧ Fx (RS []) m m' ∧ ∃ v : Int64, r = some (.long v)) := by
  have f : Fx (RS []) m m := Fx.rf
  refine v_X6_halfAfter  ?_
  refine ⟨?_, ?_⟩
  · intro c1
    have k2 := y_eqr (n := 0) rfl c1
    refine ⟨?_, ?_⟩
    · exact vpi (by omega) (by omega)
    · exact (l_X6_halfAfter (m0 := m) 1000000).1 _ _ _ _ _ w f (by show 0 * (x2).toInt + 2 < _; omega)
  · intro c3
    have k4 := y_ner (n := 0) rfl c3
    refine ⟨?_, ?_⟩
    · exact vpi (by omega) (by omega)
    · exact (l_X6_halfAfter (m0 := m) 1000000).1 _ _ _ _ _ w f (by show 0 * (x2).toInt + 2 < _; omega)
set_option maxHeartbeats 4000000 in
theorem l_X6_step {ad : Nat → Nat} {d : Nat} {m0 : Wm}  : ∀ n : Nat, (∀ (m : Wm) (x2 x3 x4 x5 x6 s0 : Int32), WT m → Fx (RS [2, 10, 11]) m0 m → (0 : Int) ≤ x2.toInt → x2.toInt ≤ (2999 : Int) → (0 : Int) ≤ x4.toInt → x4.toInt ≤ (7 : Int) → (0 : Int) ≤ x5.toInt → x5.toInt ≤ (7 : Int) → (x2.toInt < (m.1 151 4).toInt) → ((m.1 151 4).toInt = (m0.1 151 4).toInt) → 0 * x2.toInt + 1 < (n : Int) → AW ad E0 μX6_step (d + 4) (fun r m' => WT m' ∧ Fx (RS [2, 10, 11]) m0 m' ∧ ∃ v : Int32, r = some (.int v) ∧ (0 : Int) ≤ v.toInt ∧ v.toInt ≤ 1 ∧ ((m0.1 151 4).toInt ≤ (m'.1 151 4).toInt)) 40 [(0, .ref (ad 156)), (1, .ref (ad 3)), (2, .int x2), (3, .int x3), (4, .int x4), (5, .int x5), (6, .int x6)] [.int s0] m) ∧ (∀ (m : Wm) (x2 x3 x4 x5 x7 : Int32), WT m → Fx (RS [2, 10, 11]) m0 m → (0 : Int) ≤ x2.toInt → x2.toInt ≤ (2999 : Int) → (0 : Int) ≤ x4.toInt → x4.toInt ≤ (7 : Int) → (0 : Int) ≤ x5.toInt → x5.toInt ≤ (7 : Int) → (x2.toInt < (m.1 151 4).toInt) → ((m.1 151 4).toInt = (m0.1 151 4).toInt) → 0 * x2.toInt < (n : Int) → AW ad E0 μX6_step (d + 4) (fun r m' => WT m' ∧ Fx (RS [2, 10, 11]) m0 m' ∧ ∃ v : Int32, r = some (.int v) ∧ (0 : Int) ≤ v.toInt ∧ v.toInt ≤ 1 ∧ ((m0.1 151 4).toInt ≤ (m'.1 151 4).toInt)) 61 [(0, .ref (ad 156)), (1, .ref (ad 3)), (2, .int x2), (3, .int x3), (4, .int x4), (5, .int x5), (7, .int x7)] [] m) := by
  intro n
  induction n with
  | zero =>
    refine ⟨?_, ?_⟩ <;> intros <;> exfalso <;> omega
  | succ n ih =>
    refine ⟨?_, ?_⟩
    · intro m x2 x3 x4 x5 x6 s0 w f j1 j2 j3 j4 j5 j6 j7 j8 hn
      refine g_X6_step_40  ?_
      refine ⟨?_, ?_⟩
      · intro c1
        have k2 := y_eqr (n := 2) rfl c1
        have r3 := w.at (a := 151) (k := 4) rfl
        exact ⟨w, f, _, rfl, (by show (0 : Int) ≤ (1 : Int); omega), (by show (1 : Int) ≤ (1 : Int); omega), (by show (m0.1 151 4).toInt ≤ ((m.1 151 4)).toInt; omega)⟩
      · intro c4
        have k5 := y_ner (n := 2) rfl c4
        refine ⟨?_, ?_⟩
        · intro c6
          have k7 := y_eqr (n := 0) rfl c6
          have r8 := w.at (a := 151) (k := 4) rfl
          exact ih.2 _ _ _ _ _ _ w f (by show (0 : Int) ≤ (x2).toInt; omega) (by show (x2).toInt ≤ (2999 : Int); omega) (by show (0 : Int) ≤ (x4).toInt; omega) (by show (x4).toInt ≤ (7 : Int); omega) (by show (0 : Int) ≤ (x5).toInt; omega) (by show (x5).toInt ≤ (7 : Int); omega) (by show (x2).toInt < ((m.1 151 4)).toInt; omega) (by show ((m.1 151 4)).toInt = (m0.1 151 4).toInt; omega) (by show 0 * (x2).toInt < _; omega)
        · intro c9
          have k10 := y_ner (n := 0) rfl c9
          refine ⟨?_, ?_⟩
          · intro c11
            have k12 := z_ne c11
            have r13 := w.at (a := 151) (k := 4) rfl
            exact ih.2 _ _ _ _ _ _ w f (by show (0 : Int) ≤ (x2).toInt; omega) (by show (x2).toInt ≤ (2999 : Int); omega) (by show (0 : Int) ≤ (x4).toInt; omega) (by show (x4).toInt ≤ (7 : Int); omega) (by show (0 : Int) ≤ (x5).toInt; omega) (by show (x5).toInt ≤ (7 : Int); omega) (by show (x2).toInt < ((m.1 151 4)).toInt; omega) (by show ((m.1 151 4)).toInt = (m0.1 151 4).toInt; omega) (by show 0 * (x2).toInt < _; omega)
          · intro c14
            have k15 := z_eq c14
            have r16 := w.at (a := 151) (k := 4) rfl
            exact ⟨w, f, _, rfl, (by show (0 : Int) ≤ (1 : Int); omega), (by show (1 : Int) ≤ (1 : Int); omega), (by show (m0.1 151 4).toInt ≤ ((m.1 151 4)).toInt; omega)⟩
    · intro m x2 x3 x4 x5 x7 w f j1 j2 j3 j4 j5 j6 j7 j8 hn
      refine g_X6_step_61  ?_
      refine (s_X1_settle w SS_157 (by show (0 : Int) ≤ (x4).toInt; omega) (by show (x4).toInt ≤ (7 : Int); omega) (by show (0 : Int) ≤ (x5).toInt; omega) (by show (x5).toInt ≤ (7 : Int); omega)).to ?_
      rintro _ m1 ⟨w_m1, g1, rfl⟩
      have f_m1 : Fx (RS [2, 10, 11]) m0 m1 := f.tr g1 (RS_sub rfl)
      have e2 : (m1.1 151 4).toInt = ((m.1 151 4)).toInt := congrArg _ (g1.at (a := 151) (k := 4) (by decide))
      have e3 : (m1.1 151 5).toInt = ((m.1 151 5)).toInt := congrArg _ (g1.at (a := 151) (k := 5) (by decide))
      refine ⟨rfl, ?_⟩
      refine ⟨?_, ?_⟩
      · intro c4
        have k5 := y_ner (n := -1) rfl c4
        refine (s_X6_halfAfter w_m1 (by show (0 : Int) ≤ (x2).toInt; omega) (by show (x2).toInt ≤ (2999 : Int); omega)).to ?_
        rintro _ m2 ⟨w_m2, g6, w3, rfl⟩
        have f_m2 : Fx (RS [2, 10, 11]) m0 m2 := f_m1.tr g6 (RS_sub rfl)
        have e7 : (m2.1 151 4).toInt = ((m1.1 151 4)).toInt := congrArg _ (g6.at (a := 151) (k := 4) (by decide))
        have e8 : (m2.1 151 5).toInt = ((m1.1 151 5)).toInt := congrArg _ (g6.at (a := 151) (k := 5) (by decide))
        refine ⟨w3, rfl, ?_⟩
        refine (s_X6_halfAfter w_m2 (by show (0 : Int) ≤ (x2).toInt; omega) (by show (x2).toInt ≤ (2999 : Int); omega)).to ?_
        rintro _ m4 ⟨w_m4, g9, w5, rfl⟩
        have f_m4 : Fx (RS [2, 10, 11]) m0 m4 := f_m2.tr g9 (RS_sub rfl)
        have e10 : (m4.1 151 4).toInt = ((m2.1 151 4)).toInt := congrArg _ (g9.at (a := 151) (k := 4) (by decide))
        have e11 : (m4.1 151 5).toInt = ((m2.1 151 5)).toInt := congrArg _ (g9.at (a := 151) (k := 5) (by decide))
        refine ⟨w5, rfl, ?_⟩
        refine (s_X9_put w_m4).to ?_
        rintro _ m6 ⟨w_m6, g12, v7, rfl, p17, p18, p13, p14, p15, p16⟩
        have f_m6 : Fx (RS [2, 10, 11]) m0 m6 := f_m4.tr g12 (RS_sub rfl)
        have p19 : ((m4.1 151 4)).toInt ≤ (m6.1 151 4).toInt := p13
        clear p13
        have p20 : (m6.1 151 4).toInt ≤ ((m4.1 151 4)).toInt + 1 := p14
        clear p14
        have p21 : (m6.1 151 5).toInt = 0 ∨ v7.toInt = ((m4.1 151 4)).toInt := p15
        clear p15
        have p22 : 3000 ≤ ((m4.1 151 4)).toInt ∨ 0 ≤ v7.toInt := p16
        clear p16
        refine ⟨v7, rfl, ?_⟩
        refine (s_X9_unpack w_m6 SS_157 (by show (0 : Int) ≤ (x2).toInt; omega) (by show (x2).toInt ≤ (2999 : Int); omega)).to ?_
        rintro _ m8 ⟨w_m8, g23, rfl⟩
        have f_m8 : Fx (RS [2, 10, 11]) m0 m8 := f_m6.tr g23 (RS_sub rfl)
        have e24 : (m8.1 151 4).toInt = ((m6.1 151 4)).toInt := congrArg _ (g23.at (a := 151) (k := 4) (by decide))
        have e25 : (m8.1 151 5).toInt = ((m6.1 151 5)).toInt := congrArg _ (g23.at (a := 151) (k := 5) (by decide))
        refine ⟨rfl, ?_⟩
        refine (s_X9_unpack w_m8 SS_157 (by show (0 : Int) ≤ (x2).toInt; omega) (by show (x2).toInt ≤ (2999 : Int); omega)).to ?_
        rintro _ m9 ⟨w_m9, g26, rfl⟩
        have f_m9 : Fx (RS [2, 10, 11]) m0 m9 := f_m8.tr g26 (RS_sub rfl)
        have e27 : (m9.1 151 4).toInt = ((m8.1 151 4)).toInt := congrArg _ (g26.at (a := 151) (k := 4) (by decide))
        have e28 : (m9.1 151 5).toInt = ((m8.1 151 5)).toInt := congrArg _ (g26.at (a := 151) (k := 5) (by decide))
        refine ⟨rfl, ?_⟩
        refine ⟨?_, ?_⟩
        · intro c29
          have k30 := y_ner (n := -1) rfl c29
          refine ⟨?_, ?_⟩
          · intro c31
            have k32 := y_eqr (n := 0) rfl c31
            have r33 := w_m9.at (a := 151) (k := 4) rfl
            exact ⟨w_m9, f_m9, _, rfl, (by show (0 : Int) ≤ (1 : Int); omega), (by show (1 : Int) ≤ (1 : Int); omega), (by show (m0.1 151 4).toInt ≤ ((m9.1 151 4)).toInt; omega)⟩
          · intro c34
            have k35 := y_ner (n := 0) rfl c34
            refine ⟨?_, ?_⟩
            · exact vpi (by omega) (by omega)
            · refine ⟨?_, ?_⟩
              · exact vpi (by omega) (by omega)
              · refine ⟨?_, ?_⟩
                · exact vpi (by omega) (by omega)
                · refine ⟨?_, ?_⟩
                  · exact vpi (by omega) (by omega)
                  · have w36 : WT (uI m9 163 v7.toNatClampNeg x2) := w_m9.t rfl (by show ((-1) : Int) ≤ (x2).toInt; omega) (by show (x2).toInt ≤ 2999; omega)
                    have f36 : Fx (RS [2, 10, 11]) m0 (uI m9 163 v7.toNatClampNeg x2) := f_m9.i rfl
                    have w37 : WT (uI (uI m9 163 v7.toNatClampNeg x2) 164 v7.toNatClampNeg ((((100 : Int32) * x3) + ((10 : Int32) * x4)) + x5)) := w36.n rfl
                    have f37 : Fx (RS [2, 10, 11]) m0 (uI (uI m9 163 v7.toNatClampNeg x2) 164 v7.toNatClampNeg ((((100 : Int32) * x3) + ((10 : Int32) * x4)) + x5)) := f36.i rfl
                    have r39 := w_m9.at (a := 165) (k := x2.toNatClampNeg) rfl
                    have t40 := tn (x := x2) (by omega)
                    have t41 := ti_addc (x := (m9.1 165 x2.toNatClampNeg)) (y := (1 : Int32)) (c := 1) rfl (by omega)
                    have t42 := tn (x := v7) (by omega)
                    have w38 : WT (uI (uI (uI m9 163 v7.toNatClampNeg x2) 164 v7.toNatClampNeg ((((100 : Int32) * x3) + ((10 : Int32) * x4)) + x5)) 165 v7.toNatClampNeg (((uI (uI m9 163 v7.toNatClampNeg x2) 164 v7.toNatClampNeg ((((100 : Int32) * x3) + ((10 : Int32) * x4)) + x5)).1 165 x2.toNatClampNeg) + (1 : Int32))) := w37.t rfl (by show (0 : Int) ≤ (((m9.1 165 x2.toNatClampNeg) + (1 : Int32))).toInt; omega) (by show (((m9.1 165 x2.toNatClampNeg) + (1 : Int32))).toInt ≤ ((v7.toNatClampNeg : Nat) : Int); omega)
                    have f38 : Fx (RS [2, 10, 11]) m0 (uI (uI (uI m9 163 v7.toNatClampNeg x2) 164 v7.toNatClampNeg ((((100 : Int32) * x3) + ((10 : Int32) * x4)) + x5)) 165 v7.toNatClampNeg (((uI (uI m9 163 v7.toNatClampNeg x2) 164 v7.toNatClampNeg ((((100 : Int32) * x3) + ((10 : Int32) * x4)) + x5)).1 165 x2.toNatClampNeg) + (1 : Int32))) := f37.i rfl
                    have r43 := w_m9.at (a := 151) (k := 4) rfl
                    exact ⟨w38, f38, _, rfl, (by show (0 : Int) ≤ (1 : Int); omega), (by show (1 : Int) ≤ (1 : Int); omega), (by show (m0.1 151 4).toInt ≤ ((m9.1 151 4)).toInt; omega)⟩
        · intro c44
          have k45 := y_eqr (n := -1) rfl c44
          have r46 := w_m9.at (a := 151) (k := 4) rfl
          exact ⟨w_m9, f_m9, _, rfl, (by show (0 : Int) ≤ (0 : Int); omega), (by show (0 : Int) ≤ (1 : Int); omega), (by show (m0.1 151 4).toInt ≤ ((m9.1 151 4)).toInt; omega)⟩
      · intro c47
        have k48 := y_eqr (n := -1) rfl c47
        have r49 := w_m1.at (a := 151) (k := 4) rfl
        exact ⟨w_m1, f_m1, _, rfl, (by show (0 : Int) ≤ (1 : Int); omega), (by show (1 : Int) ≤ (1 : Int); omega), (by show (m0.1 151 4).toInt ≤ ((m1.1 151 4)).toInt; omega)⟩
set_option maxHeartbeats 4000000 in
theorem s_X6_step {ad : Nat → Nat} {d : Nat} {m : Wm} {x2 x3 x4 x5 : Int32} (w : WT m) (i1 : (0 : Int) ≤ x2.toInt) (i2 : x2.toInt ≤ (2999 : Int)) (i3 : (0 : Int) ≤ x4.toInt) (i4 : x4.toInt ≤ (7 : Int)) (i5 : (0 : Int) ≤ x5.toInt) (i6 : x5.toInt ≤ (7 : Int)) (i7 : x2.toInt < (m.1 151 4).toInt) : Ct ad μX6_step (d + 4) [.ref (ad 156), .ref (ad 3), .int x2, .int x3, .int x4, .int x5] m (fun r m' => WT m' ∧ Fx (RS [2, 10, 11]) m m' ∧ ∃ v : Int32, r = some (.int v) ∧ (0 : Int) ≤ v.toInt ∧ v.toInt ≤ 1 ∧ ((m.1 151 4).toInt ≤ (m'.1 151 4).toInt)) := by
  have f : Fx (RS [2, 10, 11]) m m := Fx.rf
  refine v_X6_step  ?_
  refine ⟨?_, ?_⟩
  · exact vpi (by omega) (by omega)
  · refine ⟨?_, ?_⟩
    · exact vpi (by omega) (by omega)
    · refine (s_X1_resultOf w).to ?_
      rintro _ m1 ⟨w_m1, g1, v2, rfl, p2, p3⟩
      have f_m1 : Fx (RS [2, 10, 11]) m m1 := f.tr g1 (RS_sub rfl)
      have e4 : (m1.1 151 4).toInt = ((m.1 151 4)).toInt := congrArg _ (g1.at (a := 151) (k := 4) (by decide))
      have e5 : (m1.1 151 5).toInt = ((m.1 151 5)).toInt := congrArg _ (g1.at (a := 151) (k := 5) (by decide))
      refine ⟨v2, rfl, ?_⟩
      refine ⟨?_, ?_⟩
      · intro c6
        have k7 := y_ner (n := 0) rfl c6
        refine ⟨?_, ?_⟩
        · intro c8
          have k9 := y_ner (n := 1) rfl c8
          have r10 := w_m1.at (a := 151) (k := 4) rfl
          exact (l_X6_step (m0 := m) 1000000).1 _ _ _ _ _ _ _ w_m1 f_m1 (by show (0 : Int) ≤ (x2).toInt; omega) (by show (x2).toInt ≤ (2999 : Int); omega) (by show (0 : Int) ≤ (x4).toInt; omega) (by show (x4).toInt ≤ (7 : Int); omega) (by show (0 : Int) ≤ (x5).toInt; omega) (by show (x5).toInt ≤ (7 : Int); omega) (by show (x2).toInt < ((m1.1 151 4)).toInt; omega) (by show ((m1.1 151 4)).toInt = (m.1 151 4).toInt; omega) (by show 0 * (x2).toInt + 1 < _; omega)
        · intro c11
          have k12 := y_eqr (n := 1) rfl c11
          have r13 := w_m1.at (a := 151) (k := 4) rfl
          exact (l_X6_step (m0 := m) 1000000).1 _ _ _ _ _ _ _ w_m1 f_m1 (by show (0 : Int) ≤ (x2).toInt; omega) (by show (x2).toInt ≤ (2999 : Int); omega) (by show (0 : Int) ≤ (x4).toInt; omega) (by show (x4).toInt ≤ (7 : Int); omega) (by show (0 : Int) ≤ (x5).toInt; omega) (by show (x5).toInt ≤ (7 : Int); omega) (by show (x2).toInt < ((m1.1 151 4)).toInt; omega) (by show ((m1.1 151 4)).toInt = (m.1 151 4).toInt; omega) (by show 0 * (x2).toInt + 1 < _; omega)
      · intro c14
        have k15 := y_eqr (n := 0) rfl c14
        have r16 := w_m1.at (a := 151) (k := 4) rfl
        exact (l_X6_step (m0 := m) 1000000).1 _ _ _ _ _ _ _ w_m1 f_m1 (by show (0 : Int) ≤ (x2).toInt; omega) (by show (x2).toInt ≤ (2999 : Int); omega) (by show (0 : Int) ≤ (x4).toInt; omega) (by show (x4).toInt ≤ (7 : Int); omega) (by show (0 : Int) ≤ (x5).toInt; omega) (by show (x5).toInt ≤ (7 : Int); omega) (by show (x2).toInt < ((m1.1 151 4)).toInt; omega) (by show ((m1.1 151 4)).toInt = (m.1 151 4).toInt; omega) (by show 0 * (x2).toInt + 1 < _; omega)
set_option maxHeartbeats 4000000 in
theorem l_X6_expand {ad : Nat → Nat} {d : Nat} {m0 : Wm}  : ∀ n : Nat, (∀ (m : Wm) (x2 x3 : Int32), WT m → Fx (RS [2, 10, 11, 14]) m0 m → (0 : Int) ≤ x2.toInt → x2.toInt ≤ (2999 : Int) → (0 : Int) ≤ x3.toInt → x3.toInt ≤ (8 : Int) → (x2.toInt < (m.1 151 4).toInt) → ((m0.1 151 4).toInt ≤ (m.1 151 4).toInt) → 10000 - x3.toInt < (n : Int) → AW ad E0 μX6_expand (d + 5) (fun r m' => WT m' ∧ Fx (RS [2, 10, 11, 14]) m0 m' ∧ ∃ v : Int32, r = some (.int v) ∧ (0 : Int) ≤ v.toInt ∧ v.toInt ≤ 1 ∧ ((m0.1 151 4).toInt ≤ (m'.1 151 4).toInt)) 8 [(0, .ref (ad 156)), (1, .ref (ad 3)), (2, .int x2), (3, .int x3)] [] m) ∧ (∀ (m : Wm) (x2 x3 : Int32), WT m → Fx (RS [2, 10, 11, 14]) m0 m → (0 : Int) ≤ x2.toInt → x2.toInt ≤ (2999 : Int) → (0 : Int) ≤ x3.toInt → x3.toInt ≤ (3 : Int) → (x2.toInt < (m.1 151 4).toInt) → ((m0.1 151 4).toInt ≤ (m.1 151 4).toInt) → (3 - x3.toInt) * 1000 + 900 < (n : Int) → AW ad E0 μX6_expand (d + 5) (fun r m' => WT m' ∧ Fx (RS [2, 10, 11, 14]) m0 m' ∧ ∃ v : Int32, r = some (.int v) ∧ (0 : Int) ≤ v.toInt ∧ v.toInt ≤ 1 ∧ ((m0.1 151 4).toInt ≤ (m'.1 151 4).toInt)) 39 [(0, .ref (ad 156)), (1, .ref (ad 3)), (2, .int x2), (3, .int x3)] [] m) ∧ (∀ (m : Wm) (x2 x3 x4 : Int32), WT m → Fx (RS [2, 10, 11, 14]) m0 m → (0 : Int) ≤ x2.toInt → x2.toInt ≤ (2999 : Int) → (0 : Int) ≤ x3.toInt → x3.toInt ≤ (2 : Int) → (0 : Int) ≤ x4.toInt → x4.toInt ≤ (8 : Int) → (x2.toInt < (m.1 151 4).toInt) → ((m0.1 151 4).toInt ≤ (m.1 151 4).toInt) → (3 - x3.toInt) * 1000 + (8 - x4.toInt) * 20 + 15 < (n : Int) → AW ad E0 μX6_expand (d + 5) (fun r m' => WT m' ∧ Fx (RS [2, 10, 11, 14]) m0 m' ∧ ∃ v : Int32, r = some (.int v) ∧ (0 : Int) ≤ v.toInt ∧ v.toInt ≤ 1 ∧ ((m0.1 151 4).toInt ≤ (m'.1 151 4).toInt)) 47 [(0, .ref (ad 156)), (1, .ref (ad 3)), (2, .int x2), (3, .int x3), (4, .int x4)] [] m) ∧ (∀ (m : Wm) (x2 x3 x4 x5 : Int32), WT m → Fx (RS [2, 10, 11, 14]) m0 m → (0 : Int) ≤ x2.toInt → x2.toInt ≤ (2999 : Int) → (0 : Int) ≤ x3.toInt → x3.toInt ≤ (2 : Int) → (0 : Int) ≤ x4.toInt → x4.toInt ≤ (7 : Int) → (0 : Int) ≤ x5.toInt → x5.toInt ≤ (8 : Int) → (x2.toInt < (m.1 151 4).toInt) → ((m0.1 151 4).toInt ≤ (m.1 151 4).toInt) → (3 - x3.toInt) * 1000 + (8 - x4.toInt) * 20 + 10 - x5.toInt < (n : Int) → AW ad E0 μX6_expand (d + 5) (fun r m' => WT m' ∧ Fx (RS [2, 10, 11, 14]) m0 m' ∧ ∃ v : Int32, r = some (.int v) ∧ (0 : Int) ≤ v.toInt ∧ v.toInt ≤ 1 ∧ ((m0.1 151 4).toInt ≤ (m'.1 151 4).toInt)) 62 [(0, .ref (ad 156)), (1, .ref (ad 3)), (2, .int x2), (3, .int x3), (4, .int x4), (5, .int x5)] [] m) := by
  intro n
  induction n with
  | zero =>
    refine ⟨?_, ?_, ?_, ?_⟩ <;> intros <;> exfalso <;> omega
  | succ n ih =>
    refine ⟨?_, ?_, ?_, ?_⟩
    · intro m x2 x3 w f j1 j2 j3 j4 j5 j6 hn
      refine g_X6_expand_8  ?_
      refine ⟨?_, ?_⟩
      · intro c1
        have r2 := w.at (a := 3) (k := 3) rfl
        have k3 := z_le c1
        have r4 := w.at (a := 151) (k := 4) rfl
        exact ih.2.1 _ _ _ w f (by show (0 : Int) ≤ (x2).toInt; omega) (by show (x2).toInt ≤ (2999 : Int); omega) (by show (0 : Int) ≤ (0 : Int); omega) (by show (0 : Int) ≤ (3 : Int); omega) (by show (x2).toInt < ((m.1 151 4)).toInt; omega) (by show (m0.1 151 4).toInt ≤ ((m.1 151 4)).toInt; omega) (by show (3 - (0 : Int)) * 1000 + 900 < _; omega)
      · intro c5
        have r6 := w.at (a := 3) (k := 3) rfl
        have k7 := z_nle c5
        refine (s_X1_power w SS_157 (by show (0 : Int) ≤ (x3).toInt; omega) (by show (x3).toInt ≤ (7 : Int); omega)).to ?_
        rintro _ m1 ⟨w_m1, g8, v2, rfl⟩
        have f_m1 : Fx (RS [2, 10, 11, 14]) m0 m1 := f.tr g8 (RS_sub rfl)
        have e9 : (m1.1 151 4).toInt = ((m.1 151 4)).toInt := congrArg _ (g8.at (a := 151) (k := 4) (by decide))
        refine ⟨v2, rfl, ?_⟩
        refine ⟨?_, ?_⟩
        · exact vpi (by omega) (by omega)
        · have w10 : WT (uI m1 162 x3.toNatClampNeg v2) := w_m1.n rfl
          have f10 : Fx (RS [2, 10, 11, 14]) m0 (uI m1 162 x3.toNatClampNeg v2) := f_m1.i rfl
          have t11 := ti_addc (x := x3) (y := (1 : Int32)) (c := 1) rfl (by omega)
          have r12 := w_m1.at (a := 151) (k := 4) rfl
          exact ih.1 _ _ _ w10 f10 (by show (0 : Int) ≤ (x2).toInt; omega) (by show (x2).toInt ≤ (2999 : Int); omega) (by show (0 : Int) ≤ ((x3 + (1 : Int32))).toInt; omega) (by show ((x3 + (1 : Int32))).toInt ≤ (8 : Int); omega) (by show (x2).toInt < ((m1.1 151 4)).toInt; omega) (by show (m0.1 151 4).toInt ≤ ((m1.1 151 4)).toInt; omega) (by show 10000 - ((x3 + (1 : Int32))).toInt < _; omega)
    · intro m x2 x3 w f j1 j2 j3 j4 j5 j6 hn
      refine g_X6_expand_39  ?_
      refine ⟨?_, ?_⟩
      · intro c1
        have k2 := y_lel (n := 3) rfl c1
        have r3 := w.at (a := 151) (k := 4) rfl
        exact ⟨w, f, _, rfl, (by show (0 : Int) ≤ (1 : Int); omega), (by show (1 : Int) ≤ (1 : Int); omega), (by show (m0.1 151 4).toInt ≤ ((m.1 151 4)).toInt; omega)⟩
      · intro c4
        have k5 := y_nlel (n := 3) rfl c4
        have r6 := w.at (a := 151) (k := 4) rfl
        exact ih.2.2.1 _ _ _ _ w f (by show (0 : Int) ≤ (x2).toInt; omega) (by show (x2).toInt ≤ (2999 : Int); omega) (by show (0 : Int) ≤ (x3).toInt; omega) (by show (x3).toInt ≤ (2 : Int); omega) (by show (0 : Int) ≤ (0 : Int); omega) (by show (0 : Int) ≤ (8 : Int); omega) (by show (x2).toInt < ((m.1 151 4)).toInt; omega) (by show (m0.1 151 4).toInt ≤ ((m.1 151 4)).toInt; omega) (by show (3 - (x3).toInt) * 1000 + (8 - (0 : Int)) * 20 + 15 < _; omega)
    · intro m x2 x3 x4 w f j1 j2 j3 j4 j5 j6 j7 j8 hn
      refine g_X6_expand_47  ?_
      refine ⟨?_, ?_⟩
      · intro c1
        have r2 := w.at (a := 3) (k := 3) rfl
        have k3 := z_le c1
        have t4 := ti_addc (x := x3) (y := (1 : Int32)) (c := 1) rfl (by omega)
        have r5 := w.at (a := 151) (k := 4) rfl
        exact ih.2.1 _ _ _ w f (by show (0 : Int) ≤ (x2).toInt; omega) (by show (x2).toInt ≤ (2999 : Int); omega) (by show (0 : Int) ≤ ((x3 + (1 : Int32))).toInt; omega) (by show ((x3 + (1 : Int32))).toInt ≤ (3 : Int); omega) (by show (x2).toInt < ((m.1 151 4)).toInt; omega) (by show (m0.1 151 4).toInt ≤ ((m.1 151 4)).toInt; omega) (by show (3 - ((x3 + (1 : Int32))).toInt) * 1000 + 900 < _; omega)
      · intro c6
        have r7 := w.at (a := 3) (k := 3) rfl
        have k8 := z_nle c6
        have t9 := ti_addc (x := x4) (y := (1 : Int32)) (c := 1) rfl (by omega)
        have r10 := w.at (a := 151) (k := 4) rfl
        exact ih.2.2.2 _ _ _ _ _ w f (by show (0 : Int) ≤ (x2).toInt; omega) (by show (x2).toInt ≤ (2999 : Int); omega) (by show (0 : Int) ≤ (x3).toInt; omega) (by show (x3).toInt ≤ (2 : Int); omega) (by show (0 : Int) ≤ (x4).toInt; omega) (by show (x4).toInt ≤ (7 : Int); omega) (by show (0 : Int) ≤ ((x4 + (1 : Int32))).toInt; omega) (by show ((x4 + (1 : Int32))).toInt ≤ (8 : Int); omega) (by show (x2).toInt < ((m.1 151 4)).toInt; omega) (by show (m0.1 151 4).toInt ≤ ((m.1 151 4)).toInt; omega) (by show (3 - (x3).toInt) * 1000 + (8 - (x4).toInt) * 20 + 10 - ((x4 + (1 : Int32))).toInt < _; omega)
    · intro m x2 x3 x4 x5 w f j1 j2 j3 j4 j5 j6 j7 j8 j9 j10 hn
      refine g_X6_expand_62  ?_
      refine ⟨?_, ?_⟩
      · intro c1
        have r2 := w.at (a := 3) (k := 3) rfl
        have k3 := z_le c1
        have t4 := ti_addc (x := x4) (y := (1 : Int32)) (c := 1) rfl (by omega)
        have r5 := w.at (a := 151) (k := 4) rfl
        exact ih.2.2.1 _ _ _ _ w f (by show (0 : Int) ≤ (x2).toInt; omega) (by show (x2).toInt ≤ (2999 : Int); omega) (by show (0 : Int) ≤ (x3).toInt; omega) (by show (x3).toInt ≤ (2 : Int); omega) (by show (0 : Int) ≤ ((x4 + (1 : Int32))).toInt; omega) (by show ((x4 + (1 : Int32))).toInt ≤ (8 : Int); omega) (by show (x2).toInt < ((m.1 151 4)).toInt; omega) (by show (m0.1 151 4).toInt ≤ ((m.1 151 4)).toInt; omega) (by show (3 - (x3).toInt) * 1000 + (8 - ((x4 + (1 : Int32))).toInt) * 20 + 15 < _; omega)
      · intro c6
        have r7 := w.at (a := 3) (k := 3) rfl
        have k8 := z_nle c6
        have r9 := w.at (a := 151) (k := 4) rfl
        refine (s_X6_step w (by show (0 : Int) ≤ (x2).toInt; omega) (by show (x2).toInt ≤ (2999 : Int); omega) (by show (0 : Int) ≤ (x4).toInt; omega) (by show (x4).toInt ≤ (7 : Int); omega) (by show (0 : Int) ≤ (x5).toInt; omega) (by show (x5).toInt ≤ (7 : Int); omega) (by show (x2).toInt < ((m.1 151 4)).toInt; omega)).to ?_
        rintro _ m1 ⟨w_m1, g10, v2, rfl, p12, p13, p11⟩
        have f_m1 : Fx (RS [2, 10, 11, 14]) m0 m1 := f.tr g10 (RS_sub rfl)
        have p14 : ((m.1 151 4)).toInt ≤ (m1.1 151 4).toInt := p11
        clear p11
        refine ⟨v2, rfl, ?_⟩
        refine ⟨?_, ?_⟩
        · intro c15
          have k16 := y_ner (n := 0) rfl c15
          have t17 := ti_addc (x := x5) (y := (1 : Int32)) (c := 1) rfl (by omega)
          have r18 := w_m1.at (a := 151) (k := 4) rfl
          exact ih.2.2.2 _ _ _ _ _ w_m1 f_m1 (by show (0 : Int) ≤ (x2).toInt; omega) (by show (x2).toInt ≤ (2999 : Int); omega) (by show (0 : Int) ≤ (x3).toInt; omega) (by show (x3).toInt ≤ (2 : Int); omega) (by show (0 : Int) ≤ (x4).toInt; omega) (by show (x4).toInt ≤ (7 : Int); omega) (by show (0 : Int) ≤ ((x5 + (1 : Int32))).toInt; omega) (by show ((x5 + (1 : Int32))).toInt ≤ (8 : Int); omega) (by show (x2).toInt < ((m1.1 151 4)).toInt; omega) (by show (m0.1 151 4).toInt ≤ ((m1.1 151 4)).toInt; omega) (by show (3 - (x3).toInt) * 1000 + (8 - (x4).toInt) * 20 + 10 - ((x5 + (1 : Int32))).toInt < _; omega)
        · intro c19
          have k20 := y_eqr (n := 0) rfl c19
          have r21 := w_m1.at (a := 151) (k := 4) rfl
          exact ⟨w_m1, f_m1, _, rfl, (by show (0 : Int) ≤ (0 : Int); omega), (by show (0 : Int) ≤ (1 : Int); omega), (by show (m0.1 151 4).toInt ≤ ((m1.1 151 4)).toInt; omega)⟩
set_option maxHeartbeats 4000000 in
theorem s_X6_expand {ad : Nat → Nat} {d : Nat} {m : Wm} {x2 : Int32} (w : WT m) (i1 : (0 : Int) ≤ x2.toInt) (i2 : x2.toInt ≤ (2999 : Int)) (i3 : x2.toInt < (m.1 151 4).toInt) : Ct ad μX6_expand (d + 5) [.ref (ad 156), .ref (ad 3), .int x2] m (fun r m' => WT m' ∧ Fx (RS [2, 10, 11, 14]) m m' ∧ ∃ v : Int32, r = some (.int v) ∧ (0 : Int) ≤ v.toInt ∧ v.toInt ≤ 1 ∧ ((m.1 151 4).toInt ≤ (m'.1 151 4).toInt)) := by
  have f : Fx (RS [2, 10, 11, 14]) m m := Fx.rf
  refine v_X6_expand  ?_
  refine (s_X6_unpackAll w (by show (0 : Int) ≤ (x2).toInt; omega) (by show (x2).toInt ≤ (2999 : Int); omega)).to ?_
  rintro _ m1 ⟨w_m1, g1, rfl⟩
  have f_m1 : Fx (RS [2, 10, 11, 14]) m m1 := f.tr g1 (RS_sub rfl)
  have e2 : (m1.1 151 4).toInt = ((m.1 151 4)).toInt := congrArg _ (g1.at (a := 151) (k := 4) (by decide))
  refine ⟨rfl, ?_⟩
  have r3 := w_m1.at (a := 151) (k := 4) rfl
  exact (l_X6_expand (m0 := m) 1000000).1 _ _ _ w_m1 f_m1 (by show (0 : Int) ≤ (x2).toInt; omega) (by show (x2).toInt ≤ (2999 : Int); omega) (by show (0 : Int) ≤ (0 : Int); omega) (by show (0 : Int) ≤ (8 : Int); omega) (by show (x2).toInt < ((m1.1 151 4)).toInt; omega) (by show (m.1 151 4).toInt ≤ ((m1.1 151 4)).toInt; omega) (by show 10000 - (0 : Int) < _; omega)
set_option maxHeartbeats 4000000 in
theorem l_X6_explore {ad : Nat → Nat} {d : Nat} {m0 : Wm}  : ∀ n : Nat, (∀ (m : Wm) (x3 x4 : Int32), WT m → Fx (RS [2, 10, 11, 14]) m0 m → (0 : Int) ≤ x4.toInt → x4.toInt ≤ (3000 : Int) → 3000 - x4.toInt < (n : Int) → AW ad E0 μX6_explore (d + 6) (fun r m' => WT m' ∧ Fx (RS [2, 10, 11, 14]) m0 m' ∧ ∃ v : Int32, r = some (.int v) ∧ (0 : Int) ≤ v.toInt ∧ v.toInt ≤ 1) 51 [(0, .ref (ad 156)), (1, .ref (ad 3)), (3, .int x3), (4, .int x4)] [] m) := by
  intro n
  induction n with
  | zero =>
    intros
    exfalso
    omega
  | succ n ih =>
    intro m x3 x4 w f j1 j2 hn
    refine g_X6_explore_51  ?_
    refine ⟨?_, ?_⟩
    · intro c1
      have k2 := y_lel (n := 3000) rfl c1
      exact ⟨w, f, _, rfl, (by show (0 : Int) ≤ (1 : Int); omega), (by show (1 : Int) ≤ (1 : Int); omega)⟩
    · intro c3
      have k4 := y_nlel (n := 3000) rfl c3
      refine ⟨?_, ?_⟩
      · intro c5
        have r6 := w.at (a := 151) (k := 4) rfl
        have k7 := z_le c5
        exact ⟨w, f, _, rfl, (by show (0 : Int) ≤ (1 : Int); omega), (by show (1 : Int) ≤ (1 : Int); omega)⟩
      · intro c8
        have r9 := w.at (a := 151) (k := 4) rfl
        have k10 := z_nle c8
        refine ⟨?_, ?_⟩
        · exact vpi (by omega) (by omega)
        · refine ⟨?_, ?_⟩
          · intro c11
            have r12 := w.at (a := 165) (k := x4.toNatClampNeg) rfl
            have t13 := tn (x := x4) (by omega)
            have k14 := z_lt c11
            refine (s_X6_expand w (by show (0 : Int) ≤ (x4).toInt; omega) (by show (x4).toInt ≤ (2999 : Int); omega) (by show (x4).toInt < ((m.1 151 4)).toInt; omega)).to ?_
            rintro _ m1 ⟨w_m1, g15, v2, rfl, p17, p18, p16⟩
            have f_m1 : Fx (RS [2, 10, 11, 14]) m0 m1 := f.tr g15 (RS_sub rfl)
            have p19 : ((m.1 151 4)).toInt ≤ (m1.1 151 4).toInt := p16
            clear p16
            refine ⟨v2, rfl, ?_⟩
            refine ⟨?_, ?_⟩
            · intro c20
              have k21 := y_ner (n := 0) rfl c20
              have t22 := ti_addc (x := x4) (y := (1 : Int32)) (c := 1) rfl (by omega)
              exact ih _ _ _ w_m1 f_m1 (by show (0 : Int) ≤ ((x4 + (1 : Int32))).toInt; omega) (by show ((x4 + (1 : Int32))).toInt ≤ (3000 : Int); omega) (by show 3000 - ((x4 + (1 : Int32))).toInt < _; omega)
            · intro c23
              have k24 := y_eqr (n := 0) rfl c23
              exact ⟨w_m1, f_m1, _, rfl, (by show (0 : Int) ≤ (0 : Int); omega), (by show (0 : Int) ≤ (1 : Int); omega)⟩
          · intro c25
            have r26 := w.at (a := 165) (k := x4.toNatClampNeg) rfl
            have t27 := tn (x := x4) (by omega)
            have k28 := z_nlt c25
            exact ⟨w, f, _, rfl, (by show (0 : Int) ≤ (1 : Int); omega), (by show (1 : Int) ≤ (1 : Int); omega)⟩
set_option maxHeartbeats 4000000 in
theorem s_X6_explore {ad : Nat → Nat} {d : Nat} {m : Wm} {x3 : Int32} (w : WT m) : Ct ad μX6_explore (d + 6) [.ref (ad 156), .ref (ad 3), .ref (ad 21), .int x3] m (fun r m' => WT m' ∧ Fx (RS [2, 10, 11, 14]) m m' ∧ ∃ v : Int32, r = some (.int v) ∧ (0 : Int) ≤ v.toInt ∧ v.toInt ≤ 1) := by
  have f : Fx (RS [2, 10, 11, 14]) m m := Fx.rf
  refine v_X6_explore St_21 ?_
  refine (s_X8_copy w SS_157 SS_21).to ?_
  rintro _ m1 ⟨w_m1, g1, rfl⟩
  have f_m1 : Fx (RS [2, 10, 11, 14]) m m1 := f.tr g1 (RS_sub rfl)
  refine ⟨rfl, ?_⟩
  refine (s_X9_clear w_m1).to ?_
  rintro _ m2 ⟨w_m2, g2, rfl, p3⟩
  have f_m2 : Fx (RS [2, 10, 11, 14]) m m2 := f_m1.tr g2 (RS_sub rfl)
  have p4 : (m2.1 151 4).toInt = 0 := p3
  clear p3
  refine ⟨rfl, ?_⟩
  refine (s_X9_putSkillsOf w_m2 SS_157).to ?_
  rintro _ m3 ⟨w_m3, g5, v4, rfl, p10, p11, p6, p7, p8, p9⟩
  have f_m3 : Fx (RS [2, 10, 11, 14]) m m3 := f_m2.tr g5 (RS_sub rfl)
  have p12 : ((m2.1 151 4)).toInt ≤ (m3.1 151 4).toInt := p6
  clear p6
  have p13 : (m3.1 151 4).toInt ≤ ((m2.1 151 4)).toInt + 1 := p7
  clear p7
  have p14 : (m3.1 151 5).toInt = 0 ∨ v4.toInt = ((m2.1 151 4)).toInt := p8
  clear p8
  have p15 : 3000 ≤ ((m2.1 151 4)).toInt ∨ 0 ≤ v4.toInt := p9
  clear p9
  refine ⟨v4, rfl, ?_⟩
  have w16 : WT (uI m3 163 ((0 : Int32).toNatClampNeg) (-1 : Int32)) := w_m3.t rfl (by show ((-1) : Int) ≤ (-1 : Int); omega) (by show (-1 : Int) ≤ 2999; omega)
  have f16 : Fx (RS [2, 10, 11, 14]) m (uI m3 163 ((0 : Int32).toNatClampNeg) (-1 : Int32)) := f_m3.i rfl
  have w17 : WT (uI (uI m3 163 ((0 : Int32).toNatClampNeg) (-1 : Int32)) 164 ((0 : Int32).toNatClampNeg) (-1 : Int32)) := w16.n rfl
  have f17 : Fx (RS [2, 10, 11, 14]) m (uI (uI m3 163 ((0 : Int32).toNatClampNeg) (-1 : Int32)) 164 ((0 : Int32).toNatClampNeg) (-1 : Int32)) := f16.i rfl
  have w18 : WT (uI (uI (uI m3 163 ((0 : Int32).toNatClampNeg) (-1 : Int32)) 164 ((0 : Int32).toNatClampNeg) (-1 : Int32)) 165 ((0 : Int32).toNatClampNeg) (0 : Int32)) := w17.t rfl (by show (0 : Int) ≤ (0 : Int); decide) (by show (0 : Int) ≤ (((0 : Int32).toNatClampNeg : Nat) : Int); decide)
  have f18 : Fx (RS [2, 10, 11, 14]) m (uI (uI (uI m3 163 ((0 : Int32).toNatClampNeg) (-1 : Int32)) 164 ((0 : Int32).toNatClampNeg) (-1 : Int32)) 165 ((0 : Int32).toNatClampNeg) (0 : Int32)) := f17.i rfl
  exact (l_X6_explore (m0 := m) 1000000) _ _ _ w18 f18 (by show (0 : Int) ≤ (0 : Int); omega) (by show (0 : Int) ≤ (3000 : Int); omega) (by show 3000 - (0 : Int) < _; omega)
set_option maxHeartbeats 4000000 in
theorem l_X6_fillWay {ad : Nat → Nat} {d : Nat} {m0 : Wm}  : ∀ n : Nat, (∀ (m : Wm) (x3 x4 : Int32), WT m → Fx (RS [9]) m0 m → (-1 : Int) ≤ x3.toInt → x3.toInt ≤ (2999 : Int) → (0 : Int) ≤ x4.toInt → x4.toInt ≤ (3000 : Int) → x4.toInt * 2 + 1 < (n : Int) → AW ad E0 μX6_fillWay d (fun r m' => WT m' ∧ Fx (RS [9]) m0 m' ∧ r = none) 10 [(0, .ref (ad 156)), (2, .ref (ad 150)), (3, .int x3), (4, .int x4)] [] m) ∧ (∀ (m : Wm) (x3 x4 : Int32), WT m → Fx (RS [9]) m0 m → (0 : Int) ≤ x3.toInt → x3.toInt ≤ (2999 : Int) → (1 : Int) ≤ x4.toInt → x4.toInt ≤ (3000 : Int) → x4.toInt * 2 < (n : Int) → AW ad E0 μX6_fillWay d (fun r m' => WT m' ∧ Fx (RS [9]) m0 m' ∧ r = none) 39 [(0, .ref (ad 156)), (2, .ref (ad 150)), (3, .int x3), (4, .int x4)] [] m) := by
  intro n
  induction n with
  | zero =>
    refine ⟨?_, ?_⟩ <;> intros <;> exfalso <;> omega
  | succ n ih =>
    refine ⟨?_, ?_⟩
    · intro m x3 x4 w f j1 j2 j3 j4 hn
      refine g_X6_fillWay_10 ly_150 ?_
      have tof : (Int32.ofNat 10).toInt = 10 := rfl
      refine ⟨?_, ?_⟩
      · intro c1
        have k2 := y_ler (n := 0) rfl c1
        exact ⟨w, f, rfl⟩
      · intro c3
        have k4 := y_nler (n := 0) rfl c3
        refine ⟨?_, ?_⟩
        · intro c5
          have k6 := y_ltr (n := 0) rfl c5
          exact ⟨w, f, rfl⟩
        · intro c7
          have k8 := y_nltr (n := 0) rfl c7
          refine ⟨?_, ?_⟩
          · intro c9
            have k10 := z_lt c9
            exact ih.2 _ _ _ w f (by show (0 : Int) ≤ (x3).toInt; omega) (by show (x3).toInt ≤ (2999 : Int); omega) (by show (1 : Int) ≤ (x4).toInt; omega) (by show (x4).toInt ≤ (3000 : Int); omega) (by show (x4).toInt * 2 < _; omega)
          · intro c11
            have k12 := z_nlt c11
            refine ⟨?_, ?_⟩
            · exact vpi (by omega) (by omega)
            · refine ⟨?_, ?_⟩
              · have t13 := ti_subc (x := x4) (y := (1 : Int32)) (c := 1) rfl (by omega)
                exact vpi (by omega) (by omega)
              · have w14 : WT (uL m 150 ((x4 - (1 : Int32)).toNatClampNeg) ((m.1 164 x3.toNatClampNeg).toInt64)) := w.l
                have f14 : Fx (RS [9]) m0 (uL m 150 ((x4 - (1 : Int32)).toNatClampNeg) ((m.1 164 x3.toNatClampNeg).toInt64)) := f.l rfl
                exact ih.2 _ _ _ w14 f14 (by show (0 : Int) ≤ (x3).toInt; omega) (by show (x3).toInt ≤ (2999 : Int); omega) (by show (1 : Int) ≤ (x4).toInt; omega) (by show (x4).toInt ≤ (3000 : Int); omega) (by show (x4).toInt * 2 < _; omega)
    · intro m x3 x4 w f j1 j2 j3 j4 hn
      refine g_X6_fillWay_39 ly_150 ?_
      refine ⟨?_, ?_⟩
      · exact vpi (by omega) (by omega)
      · have r1 := w.at (a := 163) (k := x3.toNatClampNeg) rfl
        have t2 := ti_addc (x := x4) (y := (-1 : Int32)) (c := -1) rfl (by omega)
        exact ih.1 _ _ _ w f (by show (-1 : Int) ≤ ((m.1 163 x3.toNatClampNeg)).toInt; omega) (by show ((m.1 163 x3.toNatClampNeg)).toInt ≤ (2999 : Int); omega) (by show (0 : Int) ≤ ((x4 + (-1 : Int32))).toInt; omega) (by show ((x4 + (-1 : Int32))).toInt ≤ (3000 : Int); omega) (by show ((x4 + (-1 : Int32))).toInt * 2 + 1 < _; omega)
set_option maxHeartbeats 4000000 in
theorem s_X6_fillWay {ad : Nat → Nat} {d : Nat} {m : Wm} {x1 : Int32} (w : WT m) (i1 : (0 : Int) ≤ x1.toInt) (i2 : x1.toInt ≤ (2999 : Int)) : Ct ad μX6_fillWay d [.ref (ad 156), .int x1, .ref (ad 150)] m (fun r m' => WT m' ∧ Fx (RS [9]) m m' ∧ r = none) := by
  have f : Fx (RS [9]) m m := Fx.rf
  refine v_X6_fillWay ly_150 ?_
  refine ⟨?_, ?_⟩
  · exact vpi (by omega) (by omega)
  · have r1 := w.at (a := 165) (k := x1.toNatClampNeg) rfl
    have t2 := tn (x := x1) (by omega)
    exact (l_X6_fillWay (m0 := m) 1000000).1 _ _ _ w f (by show (-1 : Int) ≤ (x1).toInt; omega) (by show (x1).toInt ≤ (2999 : Int); omega) (by show (0 : Int) ≤ ((m.1 165 x1.toNatClampNeg)).toInt; omega) (by show ((m.1 165 x1.toNatClampNeg)).toInt ≤ (3000 : Int); omega) (by show ((m.1 165 x1.toNatClampNeg)).toInt * 2 + 1 < _; omega)
set_option maxHeartbeats 4000000 in
theorem l_X6_firstStrong {ad : Nat → Nat} {d : Nat} {m0 : Wm}  : ∀ n : Nat, (∀ (m : Wm) (x2 x3 : Int32), WT m → Fx (RS [11, 14]) m0 m → (0 : Int) ≤ x3.toInt → x3.toInt ≤ (3000 : Int) → (3000 - x3.toInt) * 20 + 15 < (n : Int) → AW ad E0 μX6_firstStrong (d + 5) (fun r m' => WT m' ∧ Fx (RS [11, 14]) m0 m' ∧ ∃ v : Int32, r = some (.int v) ∧ (-1 : Int) ≤ v.toInt ∧ v.toInt ≤ 2999) 2 [(0, .ref (ad 156)), (1, .ref (ad 3)), (2, .int x2), (3, .int x3)] [] m) ∧ (∀ (m : Wm) (x2 x3 x4 x5 : Int32), WT m → Fx (RS [11, 14]) m0 m → (0 : Int) ≤ x3.toInt → x3.toInt ≤ (2999 : Int) → (0 : Int) ≤ x5.toInt → x5.toInt ≤ (8 : Int) → (3000 - x3.toInt) * 20 + 8 - x5.toInt < (n : Int) → AW ad E0 μX6_firstStrong (d + 5) (fun r m' => WT m' ∧ Fx (RS [11, 14]) m0 m' ∧ ∃ v : Int32, r = some (.int v) ∧ (-1 : Int) ≤ v.toInt ∧ v.toInt ≤ 2999) 25 [(0, .ref (ad 156)), (1, .ref (ad 3)), (2, .int x2), (3, .int x3), (4, .int x4), (5, .int x5)] [] m) := by
  intro n
  induction n with
  | zero =>
    refine ⟨?_, ?_⟩ <;> intros <;> exfalso <;> omega
  | succ n ih =>
    refine ⟨?_, ?_⟩
    · intro m x2 x3 w f j1 j2 hn
      refine g_X6_firstStrong_2  ?_
      refine ⟨?_, ?_⟩
      · intro c1
        have r2 := w.at (a := 151) (k := 4) rfl
        have k3 := z_le c1
        exact ⟨w, f, _, rfl, (by show (-1 : Int) ≤ (-1 : Int); omega), (by show (-1 : Int) ≤ (2999 : Int); omega)⟩
      · intro c4
        have r5 := w.at (a := 151) (k := 4) rfl
        have k6 := z_nle c4
        refine (s_X6_unpackAll w (by show (0 : Int) ≤ (x3).toInt; omega) (by show (x3).toInt ≤ (2999 : Int); omega)).to ?_
        rintro _ m1 ⟨w_m1, g7, rfl⟩
        have f_m1 : Fx (RS [11, 14]) m0 m1 := f.tr g7 (RS_sub rfl)
        refine ⟨rfl, ?_⟩
        exact ih.2 _ _ _ _ _ w_m1 f_m1 (by show (0 : Int) ≤ (x3).toInt; omega) (by show (x3).toInt ≤ (2999 : Int); omega) (by show (0 : Int) ≤ (0 : Int); omega) (by show (0 : Int) ≤ (8 : Int); omega) (by show (3000 - (x3).toInt) * 20 + 8 - (0 : Int) < _; omega)
    · intro m x2 x3 x4 x5 w f j1 j2 j3 j4 hn
      refine g_X6_firstStrong_25  ?_
      refine ⟨?_, ?_⟩
      · intro c1
        have r2 := w.at (a := 3) (k := 3) rfl
        have k3 := z_le c1
        refine ⟨?_, ?_⟩
        · intro c4
          have k5 := y_eqr (n := 0) rfl c4
          have t6 := ti_addc (x := x3) (y := (1 : Int32)) (c := 1) rfl (by omega)
          exact ih.1 _ _ _ w f (by show (0 : Int) ≤ ((x3 + (1 : Int32))).toInt; omega) (by show ((x3 + (1 : Int32))).toInt ≤ (3000 : Int); omega) (by show (3000 - ((x3 + (1 : Int32))).toInt) * 20 + 15 < _; omega)
        · intro c7
          have k8 := y_ner (n := 0) rfl c7
          exact ⟨w, f, _, rfl, (by show (-1 : Int) ≤ (x3).toInt; omega), (by show (x3).toInt ≤ (2999 : Int); omega)⟩
      · intro c9
        have r10 := w.at (a := 3) (k := 3) rfl
        have k11 := z_nle c9
        refine ⟨?_, ?_⟩
        · intro c12
          have k13 := y_eqr (n := 0) rfl c12
          refine ⟨?_, ?_⟩
          · intro c14
            have k15 := y_eqr (n := 0) rfl c14
            have t16 := ti_addc (x := x3) (y := (1 : Int32)) (c := 1) rfl (by omega)
            exact ih.1 _ _ _ w f (by show (0 : Int) ≤ ((x3 + (1 : Int32))).toInt; omega) (by show ((x3 + (1 : Int32))).toInt ≤ (3000 : Int); omega) (by show (3000 - ((x3 + (1 : Int32))).toInt) * 20 + 15 < _; omega)
          · intro c17
            have k18 := y_ner (n := 0) rfl c17
            exact ⟨w, f, _, rfl, (by show (-1 : Int) ≤ (x3).toInt; omega), (by show (x3).toInt ≤ (2999 : Int); omega)⟩
        · intro c19
          have k20 := y_ner (n := 0) rfl c19
          refine (s_X1_power w SS_157 (by show (0 : Int) ≤ (x5).toInt; omega) (by show (x5).toInt ≤ (7 : Int); omega)).to ?_
          rintro _ m1 ⟨w_m1, g21, v2, rfl⟩
          have f_m1 : Fx (RS [11, 14]) m0 m1 := f.tr g21 (RS_sub rfl)
          refine ⟨v2, rfl, ?_⟩
          refine ⟨?_, ?_⟩
          · intro c22
            have k23 := z_lt c22
            have t24 := ti_addc (x := x5) (y := (1 : Int32)) (c := 1) rfl (by omega)
            exact ih.2 _ _ _ _ _ w_m1 f_m1 (by show (0 : Int) ≤ (x3).toInt; omega) (by show (x3).toInt ≤ (2999 : Int); omega) (by show (0 : Int) ≤ ((x5 + (1 : Int32))).toInt; omega) (by show ((x5 + (1 : Int32))).toInt ≤ (8 : Int); omega) (by show (3000 - (x3).toInt) * 20 + 8 - ((x5 + (1 : Int32))).toInt < _; omega)
          · intro c25
            have k26 := z_nlt c25
            have t27 := ti_addc (x := x5) (y := (1 : Int32)) (c := 1) rfl (by omega)
            exact ih.2 _ _ _ _ _ w_m1 f_m1 (by show (0 : Int) ≤ (x3).toInt; omega) (by show (x3).toInt ≤ (2999 : Int); omega) (by show (0 : Int) ≤ ((x5 + (1 : Int32))).toInt; omega) (by show ((x5 + (1 : Int32))).toInt ≤ (8 : Int); omega) (by show (3000 - (x3).toInt) * 20 + 8 - ((x5 + (1 : Int32))).toInt < _; omega)
set_option maxHeartbeats 4000000 in
theorem s_X6_firstStrong {ad : Nat → Nat} {d : Nat} {m : Wm} {x2 : Int32} (w : WT m) : Ct ad μX6_firstStrong (d + 5) [.ref (ad 156), .ref (ad 3), .int x2] m (fun r m' => WT m' ∧ Fx (RS [11, 14]) m m' ∧ ∃ v : Int32, r = some (.int v) ∧ (-1 : Int) ≤ v.toInt ∧ v.toInt ≤ 2999) := by
  have f : Fx (RS [11, 14]) m m := Fx.rf
  refine v_X6_firstStrong  ?_
  exact (l_X6_firstStrong (m0 := m) 1000000).1 _ _ _ w f (by show (0 : Int) ≤ (0 : Int); omega) (by show (0 : Int) ≤ (3000 : Int); omega) (by show (3000 - (0 : Int)) * 20 + 15 < _; omega)
set_option maxHeartbeats 4000000 in
theorem l_X6_greatestPower {ad : Nat → Nat} {d : Nat} {m0 : Wm}  : ∀ n : Nat, (∀ (m : Wm) (x2 x3 x4 : Int32), WT m → Fx (RS [11, 14]) m0 m → (0 : Int) ≤ x2.toInt → x2.toInt ≤ (7 : Int) → (0 : Int) ≤ x4.toInt → x4.toInt ≤ (3000 : Int) → (3000 - x4.toInt) * 2 + 1 < (n : Int) → AW ad E0 μX6_greatestPower (d + 5) (fun r m' => WT m' ∧ Fx (RS [11, 14]) m0 m' ∧ ∃ v : Int32, r = some (.int v)) 5 [(0, .ref (ad 156)), (1, .ref (ad 3)), (2, .int x2), (3, .int x3), (4, .int x4)] [] m) ∧ (∀ (m : Wm) (x2 x4 x5 : Int32), WT m → Fx (RS [11, 14]) m0 m → (0 : Int) ≤ x2.toInt → x2.toInt ≤ (7 : Int) → (0 : Int) ≤ x4.toInt → x4.toInt ≤ (2999 : Int) → (3000 - x4.toInt) * 2 < (n : Int) → AW ad E0 μX6_greatestPower (d + 5) (fun r m' => WT m' ∧ Fx (RS [11, 14]) m0 m' ∧ ∃ v : Int32, r = some (.int v)) 46 [(0, .ref (ad 156)), (1, .ref (ad 3)), (2, .int x2), (4, .int x4), (5, .int x5)] [] m) := by
  intro n
  induction n with
  | zero =>
    refine ⟨?_, ?_⟩ <;> intros <;> exfalso <;> omega
  | succ n ih =>
    refine ⟨?_, ?_⟩
    · intro m x2 x3 x4 w f j1 j2 j3 j4 hn
      refine g_X6_greatestPower_5  ?_
      refine ⟨?_, ?_⟩
      · intro c1
        have r2 := w.at (a := 151) (k := 4) rfl
        have k3 := z_le c1
        exact ⟨w, f, _, rfl⟩
      · intro c4
        have r5 := w.at (a := 151) (k := 4) rfl
        have k6 := z_nle c4
        refine (s_X6_unpackAll w (by show (0 : Int) ≤ (x4).toInt; omega) (by show (x4).toInt ≤ (2999 : Int); omega)).to ?_
        rintro _ m1 ⟨w_m1, g7, rfl⟩
        have f_m1 : Fx (RS [11, 14]) m0 m1 := f.tr g7 (RS_sub rfl)
        refine ⟨rfl, ?_⟩
        refine (s_X1_power w_m1 SS_157 (by show (0 : Int) ≤ (x2).toInt; omega) (by show (x2).toInt ≤ (7 : Int); omega)).to ?_
        rintro _ m2 ⟨w_m2, g8, v3, rfl⟩
        have f_m2 : Fx (RS [11, 14]) m0 m2 := f_m1.tr g8 (RS_sub rfl)
        refine ⟨v3, rfl, ?_⟩
        refine ⟨?_, ?_⟩
        · intro c9
          have k10 := y_eqr (n := 0) rfl c9
          exact ih.2 _ _ _ _ w_m2 f_m2 (by show (0 : Int) ≤ (x2).toInt; omega) (by show (x2).toInt ≤ (7 : Int); omega) (by show (0 : Int) ≤ (x4).toInt; omega) (by show (x4).toInt ≤ (2999 : Int); omega) (by show (3000 - (x4).toInt) * 2 < _; omega)
        · intro c11
          have k12 := y_ner (n := 0) rfl c11
          refine ⟨?_, ?_⟩
          · intro c13
            have k14 := z_le c13
            have t15 := ti_addc (x := x4) (y := (1 : Int32)) (c := 1) rfl (by omega)
            exact ih.1 _ _ _ _ w_m2 f_m2 (by show (0 : Int) ≤ (x2).toInt; omega) (by show (x2).toInt ≤ (7 : Int); omega) (by show (0 : Int) ≤ ((x4 + (1 : Int32))).toInt; omega) (by show ((x4 + (1 : Int32))).toInt ≤ (3000 : Int); omega) (by show (3000 - ((x4 + (1 : Int32))).toInt) * 2 + 1 < _; omega)
          · intro c16
            have k17 := z_nle c16
            exact ih.2 _ _ _ _ w_m2 f_m2 (by show (0 : Int) ≤ (x2).toInt; omega) (by show (x2).toInt ≤ (7 : Int); omega) (by show (0 : Int) ≤ (x4).toInt; omega) (by show (x4).toInt ≤ (2999 : Int); omega) (by show (3000 - (x4).toInt) * 2 < _; omega)
    · intro m x2 x4 x5 w f j1 j2 j3 j4 hn
      refine g_X6_greatestPower_46  ?_
      have w1 : WT (uI m 156 6 x4) := w.t rfl (by show (0 : Int) ≤ (x4).toInt; omega) (by show (x4).toInt ≤ 2999; omega)
      have f1 : Fx (RS [11, 14]) m0 (uI m 156 6 x4) := f.i rfl
      have t2 := ti_addc (x := x4) (y := (1 : Int32)) (c := 1) rfl (by omega)
      exact ih.1 _ _ _ _ w1 f1 (by show (0 : Int) ≤ (x2).toInt; omega) (by show (x2).toInt ≤ (7 : Int); omega) (by show (0 : Int) ≤ ((x4 + (1 : Int32))).toInt; omega) (by show ((x4 + (1 : Int32))).toInt ≤ (3000 : Int); omega) (by show (3000 - ((x4 + (1 : Int32))).toInt) * 2 + 1 < _; omega)
set_option maxHeartbeats 4000000 in
theorem s_X6_greatestPower {ad : Nat → Nat} {d : Nat} {m : Wm} {x2 : Int32} (w : WT m) (i1 : (0 : Int) ≤ x2.toInt) (i2 : x2.toInt ≤ (7 : Int)) : Ct ad μX6_greatestPower (d + 5) [.ref (ad 156), .ref (ad 3), .int x2] m (fun r m' => WT m' ∧ Fx (RS [11, 14]) m m' ∧ ∃ v : Int32, r = some (.int v)) := by
  have f : Fx (RS [11, 14]) m m := Fx.rf
  refine v_X6_greatestPower  ?_
  exact (l_X6_greatestPower (m0 := m) 1000000).1 _ _ _ _ w f (by show (0 : Int) ≤ (x2).toInt; omega) (by show (x2).toInt ≤ (7 : Int); omega) (by show (0 : Int) ≤ (0 : Int); omega) (by show (0 : Int) ≤ (3000 : Int); omega) (by show (3000 - (0 : Int)) * 2 + 1 < _; omega)
set_option maxHeartbeats 4000000 in
theorem l_X6_leastGap {ad : Nat → Nat} {d : Nat} {m0 : Wm}  : ∀ n : Nat, (∀ (m : Wm) (x2 x3 : Int32), WT m → Fx (RS [11, 14]) m0 m → (0 : Int) ≤ x3.toInt → x3.toInt ≤ (3000 : Int) → (3000 - x3.toInt) * 2 + 1 < (n : Int) → AW ad E0 μX6_leastGap (d + 6) (fun r m' => WT m' ∧ Fx (RS [11, 14]) m0 m' ∧ ∃ v : Int32, r = some (.int v)) 4 [(0, .ref (ad 156)), (1, .ref (ad 3)), (2, .int x2), (3, .int x3)] [] m) ∧ (∀ (m : Wm) (x3 x4 : Int32), WT m → Fx (RS [11, 14]) m0 m → (0 : Int) ≤ x3.toInt → x3.toInt ≤ (2999 : Int) → (3000 - x3.toInt) * 2 < (n : Int) → AW ad E0 μX6_leastGap (d + 6) (fun r m' => WT m' ∧ Fx (RS [11, 14]) m0 m' ∧ ∃ v : Int32, r = some (.int v)) 66 [(0, .ref (ad 156)), (1, .ref (ad 3)), (3, .int x3), (4, .int x4)] [] m) := by
  intro n
  induction n with
  | zero =>
    refine ⟨?_, ?_⟩ <;> intros <;> exfalso <;> omega
  | succ n ih =>
    refine ⟨?_, ?_⟩
    · intro m x2 x3 w f j1 j2 hn
      refine g_X6_leastGap_4  ?_
      refine ⟨?_, ?_⟩
      · intro c1
        have r2 := w.at (a := 151) (k := 4) rfl
        have k3 := z_le c1
        exact ⟨w, f, _, rfl⟩
      · intro c4
        have r5 := w.at (a := 151) (k := 4) rfl
        have k6 := z_nle c4
        refine (s_X6_unpackAll w (by show (0 : Int) ≤ (x3).toInt; omega) (by show (x3).toInt ≤ (2999 : Int); omega)).to ?_
        rintro _ m1 ⟨w_m1, g7, rfl⟩
        have f_m1 : Fx (RS [11, 14]) m0 m1 := f.tr g7 (RS_sub rfl)
        refine ⟨rfl, ?_⟩
        refine (s_X1_strongest w_m1 SS_157).to ?_
        rintro _ m2 ⟨w_m2, g8, v3, rfl, p9, p10⟩
        have f_m2 : Fx (RS [11, 14]) m0 m2 := f_m1.tr g8 (RS_sub rfl)
        refine ⟨v3, rfl, ?_⟩
        refine (s_X1_power w_m2 SS_157 (by show (0 : Int) ≤ (v3).toInt; omega) (by show (v3).toInt ≤ (7 : Int); omega)).to ?_
        rintro _ m4 ⟨w_m4, g11, v5, rfl⟩
        have f_m4 : Fx (RS [11, 14]) m0 m4 := f_m2.tr g11 (RS_sub rfl)
        refine ⟨v5, rfl, ?_⟩
        refine (s_X1_weakest w_m4 SS_157).to ?_
        rintro _ m6 ⟨w_m6, g12, v7, rfl, p13, p14⟩
        have f_m6 : Fx (RS [11, 14]) m0 m6 := f_m4.tr g12 (RS_sub rfl)
        refine ⟨v7, rfl, ?_⟩
        refine (s_X1_power w_m6 SS_157 (by show (0 : Int) ≤ (v7).toInt; omega) (by show (v7).toInt ≤ (7 : Int); omega)).to ?_
        rintro _ m8 ⟨w_m8, g15, v9, rfl⟩
        have f_m8 : Fx (RS [11, 14]) m0 m8 := f_m6.tr g15 (RS_sub rfl)
        refine ⟨v9, rfl, ?_⟩
        refine ⟨?_, ?_⟩
        · intro c16
          have k17 := y_eqr (n := 0) rfl c16
          exact ih.2 _ _ _ w_m8 f_m8 (by show (0 : Int) ≤ (x3).toInt; omega) (by show (x3).toInt ≤ (2999 : Int); omega) (by show (3000 - (x3).toInt) * 2 < _; omega)
        · intro c18
          have k19 := y_ner (n := 0) rfl c18
          refine ⟨?_, ?_⟩
          · intro c20
            have k21 := z_le c20
            have t22 := ti_addc (x := x3) (y := (1 : Int32)) (c := 1) rfl (by omega)
            exact ih.1 _ _ _ w_m8 f_m8 (by show (0 : Int) ≤ ((x3 + (1 : Int32))).toInt; omega) (by show ((x3 + (1 : Int32))).toInt ≤ (3000 : Int); omega) (by show (3000 - ((x3 + (1 : Int32))).toInt) * 2 + 1 < _; omega)
          · intro c23
            have k24 := z_nle c23
            exact ih.2 _ _ _ w_m8 f_m8 (by show (0 : Int) ≤ (x3).toInt; omega) (by show (x3).toInt ≤ (2999 : Int); omega) (by show (3000 - (x3).toInt) * 2 < _; omega)
    · intro m x3 x4 w f j1 j2 hn
      refine g_X6_leastGap_66  ?_
      have w1 : WT (uI m 156 6 x3) := w.t rfl (by show (0 : Int) ≤ (x3).toInt; omega) (by show (x3).toInt ≤ 2999; omega)
      have f1 : Fx (RS [11, 14]) m0 (uI m 156 6 x3) := f.i rfl
      have t2 := ti_addc (x := x3) (y := (1 : Int32)) (c := 1) rfl (by omega)
      exact ih.1 _ _ _ w1 f1 (by show (0 : Int) ≤ ((x3 + (1 : Int32))).toInt; omega) (by show ((x3 + (1 : Int32))).toInt ≤ (3000 : Int); omega) (by show (3000 - ((x3 + (1 : Int32))).toInt) * 2 + 1 < _; omega)
set_option maxHeartbeats 4000000 in
theorem s_X6_leastGap {ad : Nat → Nat} {d : Nat} {m : Wm} (w : WT m) : Ct ad μX6_leastGap (d + 6) [.ref (ad 156), .ref (ad 3)] m (fun r m' => WT m' ∧ Fx (RS [11, 14]) m m' ∧ ∃ v : Int32, r = some (.int v)) := by
  have f : Fx (RS [11, 14]) m m := Fx.rf
  refine v_X6_leastGap  ?_
  exact (l_X6_leastGap (m0 := m) 1000000).1 _ _ _ w f (by show (0 : Int) ≤ (0 : Int); omega) (by show (0 : Int) ≤ (3000 : Int); omega) (by show (3000 - (0 : Int)) * 2 + 1 < _; omega)
set_option maxHeartbeats 4000000 in
theorem l_X7_playTurn {ad : Nat → Nat} {d : Nat} {m0 : Wm} {b2 : Nat} (hb2 : b2 = 134 ∨ b2 = 140) : ∀ n : Nat, (∀ (m : Wm) (x3 : Int32), WT m → Fx (RS [2, 12, 14]) m0 m → (0 : Int) ≤ x3.toInt → x3.toInt ≤ (48 : Int) → 48 - x3.toInt < (n : Int) → AW ad E0 μX7_playTurn (d + 5) (fun r m' => WT m' ∧ Fx (RS [2, 12, 14]) m0 m' ∧ r = none) 2 [(0, .ref (ad 166)), (1, .ref (ad 3)), (2, .ref (ad b2)), (3, .int x3)] [] m) := by
  intro n
  induction n with
  | zero =>
    intros
    exfalso
    omega
  | succ n ih =>
    intro m x3 w f j1 j2 hn
    refine g_X7_playTurn_2 (Pl_of hb2) ?_
    refine ⟨?_, ?_⟩
    · intro c1
      have r2 := w.pl (k := 6) hb2 rfl rfl
      have k3 := z_le c1
      exact ⟨w, f, rfl⟩
    · intro c4
      have r5 := w.pl (k := 6) hb2 rfl rfl
      have k6 := z_nle c4
      refine ⟨?_, ?_⟩
      · exact vpi (by omega) (by omega)
      · refine ⟨?_, ?_⟩
        · exact vpi (by omega) (by omega)
        · refine ⟨?_, ?_⟩
          · exact vpi (by omega) (by omega)
          · have r7 := w.plj (j := 1) (k := x3.toNatClampNeg) hb2 rfl rfl
            have r8 := w.plj (j := 2) (k := x3.toNatClampNeg) hb2 rfl rfl
            refine (s_X1_result w SS_167 (by show (0 : Int) ≤ ((m.1 (b2 + 1) x3.toNatClampNeg)).toInt; omega) (by show ((m.1 (b2 + 1) x3.toNatClampNeg)).toInt ≤ (7 : Int); omega) (by show (0 : Int) ≤ ((m.1 (b2 + 2) x3.toNatClampNeg)).toInt; omega) (by show ((m.1 (b2 + 2) x3.toNatClampNeg)).toInt ≤ (7 : Int); omega)).to ?_
            rintro _ m1 ⟨w_m1, g9, v2, rfl, p10, p11⟩
            have f_m1 : Fx (RS [2, 12, 14]) m0 m1 := f.tr g9 (RS_sub rfl)
            refine ⟨v2, rfl, ?_⟩
            refine ⟨?_, ?_⟩
            · exact vpi (by omega) (by omega)
            · refine ⟨?_, ?_⟩
              · exact vpi (by omega) (by omega)
              · have r12 := w_m1.plj (j := 1) (k := x3.toNatClampNeg) hb2 rfl rfl
                have r13 := w_m1.plj (j := 2) (k := x3.toNatClampNeg) hb2 rfl rfl
                refine (s_X1_settle w_m1 SS_167 (by show (0 : Int) ≤ ((m1.1 (b2 + 1) x3.toNatClampNeg)).toInt; omega) (by show ((m1.1 (b2 + 1) x3.toNatClampNeg)).toInt ≤ (7 : Int); omega) (by show (0 : Int) ≤ ((m1.1 (b2 + 2) x3.toNatClampNeg)).toInt; omega) (by show ((m1.1 (b2 + 2) x3.toNatClampNeg)).toInt ≤ (7 : Int); omega)).to ?_
                rintro _ m3 ⟨w_m3, g14, rfl⟩
                have f_m3 : Fx (RS [2, 12, 14]) m0 m3 := f_m1.tr g14 (RS_sub rfl)
                refine ⟨rfl, ?_⟩
                have t15 := ti_addc (x := x3) (y := (1 : Int32)) (c := 1) rfl (by omega)
                exact ih _ _ w_m3 f_m3 (by show (0 : Int) ≤ ((x3 + (1 : Int32))).toInt; omega) (by show ((x3 + (1 : Int32))).toInt ≤ (48 : Int); omega) (by show 48 - ((x3 + (1 : Int32))).toInt < _; omega)
set_option maxHeartbeats 4000000 in
theorem s_X7_playTurn {ad : Nat → Nat} {d : Nat} {m : Wm} {b2 : Nat} (w : WT m) (hb2 : b2 = 134 ∨ b2 = 140) : Ct ad μX7_playTurn (d + 5) [.ref (ad 166), .ref (ad 3), .ref (ad b2)] m (fun r m' => WT m' ∧ Fx (RS [2, 12, 14]) m m' ∧ r = none) := by
  have f : Fx (RS [2, 12, 14]) m m := Fx.rf
  refine v_X7_playTurn (Pl_of hb2) ?_
  exact (l_X7_playTurn (m0 := m) hb2 1000000) _ _ w f (by show (0 : Int) ≤ (0 : Int); omega) (by show (0 : Int) ≤ (48 : Int); omega) (by show 48 - (0 : Int) < _; omega)
set_option maxHeartbeats 4000000 in
theorem l_X7_findLoop {ad : Nat → Nat} {d : Nat} {m0 : Wm} {b2 : Nat} (hb2 : b2 = 134 ∨ b2 = 140) : ∀ n : Nat, (∀ (m : Wm) (x4 : Int32), WT m → Fx (RS [2, 10, 12, 14]) m0 m → (1 : Int) ≤ x4.toInt → x4.toInt ≤ (2001 : Int) → ((m.1 151 4).toInt ≤ x4.toInt) → 2001 - x4.toInt < (n : Int) → AW ad E0 μX7_findLoop (d + 6) (fun r m' => WT m' ∧ Fx (RS [2, 10, 12, 14]) m0 m' ∧ ∃ v : Int32, r = some (.int v) ∧ (0 : Int) ≤ v.toInt ∧ v.toInt ≤ 1) 30 [(0, .ref (ad 166)), (1, .ref (ad 3)), (2, .ref (ad b2)), (4, .int x4)] [] m) := by
  intro n
  induction n with
  | zero =>
    intros
    exfalso
    omega
  | succ n ih =>
    intro m x4 w f j1 j2 j3 hn
    refine g_X7_findLoop_30 (Pl_of hb2) ?_
    refine ⟨?_, ?_⟩
    · intro c1
      have k2 := y_ltl (n := 2000) rfl c1
      exact ⟨w, f, _, rfl, (by show (0 : Int) ≤ (0 : Int); omega), (by show (0 : Int) ≤ (1 : Int); omega)⟩
    · intro c3
      have k4 := y_nltl (n := 2000) rfl c3
      refine (s_X7_playTurn w hb2).to ?_
      rintro _ m1 ⟨w_m1, g5, rfl⟩
      have f_m1 : Fx (RS [2, 10, 12, 14]) m0 m1 := f.tr g5 (RS_sub rfl)
      have e6 : (m1.1 151 4).toInt = ((m.1 151 4)).toInt := congrArg _ (g5.at (a := 151) (k := 4) (by decide))
      refine ⟨rfl, ?_⟩
      refine (s_X9_putSkillsOf w_m1 SS_167).to ?_
      rintro _ m2 ⟨w_m2, g7, v3, rfl, p12, p13, p8, p9, p10, p11⟩
      have f_m2 : Fx (RS [2, 10, 12, 14]) m0 m2 := f_m1.tr g7 (RS_sub rfl)
      have p14 : ((m1.1 151 4)).toInt ≤ (m2.1 151 4).toInt := p8
      clear p8
      have p15 : (m2.1 151 4).toInt ≤ ((m1.1 151 4)).toInt + 1 := p9
      clear p9
      have p16 : (m2.1 151 5).toInt = 0 ∨ v3.toInt = ((m1.1 151 4)).toInt := p10
      clear p10
      have p17 : 3000 ≤ ((m1.1 151 4)).toInt ∨ 0 ≤ v3.toInt := p11
      clear p11
      refine ⟨v3, rfl, ?_⟩
      refine ⟨?_, ?_⟩
      · intro c18
        have k19 := y_ner (n := 0) rfl c18
        have t20 := ti_addc (x := x4) (y := (1 : Int32)) (c := 1) rfl (by omega)
        have r21 := w_m2.at (a := 151) (k := 4) rfl
        exact ih _ _ w_m2 f_m2 (by show (1 : Int) ≤ ((x4 + (1 : Int32))).toInt; omega) (by show ((x4 + (1 : Int32))).toInt ≤ (2001 : Int); omega) (by show ((m2.1 151 4)).toInt ≤ ((x4 + (1 : Int32))).toInt; omega) (by show 2001 - ((x4 + (1 : Int32))).toInt < _; omega)
      · intro c22
        have k23 := y_eqr (n := 0) rfl c22
        have w24 : WT (uI m2 166 3 v3) := w_m2.t rfl (by show (0 : Int) ≤ (v3).toInt; omega) (by show (v3).toInt ≤ 2999; omega)
        have f24 : Fx (RS [2, 10, 12, 14]) m0 (uI m2 166 3 v3) := f_m2.i rfl
        have w25 : WT (uI (uI m2 166 3 v3) 166 4 (x4 - v3)) := w24.n rfl
        have f25 : Fx (RS [2, 10, 12, 14]) m0 (uI (uI m2 166 3 v3) 166 4 (x4 - v3)) := f24.i rfl
        exact ⟨w25, f25, _, rfl, (by show (0 : Int) ≤ (1 : Int); omega), (by show (1 : Int) ≤ (1 : Int); omega)⟩
set_option maxHeartbeats 4000000 in
theorem s_X7_findLoop {ad : Nat → Nat} {d : Nat} {m : Wm} {b2 : Nat} (w : WT m) (hb2 : b2 = 134 ∨ b2 = 140) : Ct ad μX7_findLoop (d + 6) [.ref (ad 166), .ref (ad 3), .ref (ad b2), .ref (ad 21)] m (fun r m' => WT m' ∧ Fx (RS [2, 10, 12, 14]) m m' ∧ ∃ v : Int32, r = some (.int v) ∧ (0 : Int) ≤ v.toInt ∧ v.toInt ≤ 1) := by
  have f : Fx (RS [2, 10, 12, 14]) m m := Fx.rf
  refine v_X7_findLoop (Pl_of hb2) St_21 ?_
  refine (s_X8_copy w SS_167 SS_21).to ?_
  rintro _ m1 ⟨w_m1, g1, rfl⟩
  have f_m1 : Fx (RS [2, 10, 12, 14]) m m1 := f.tr g1 (RS_sub rfl)
  have e2 : (m1.1 151 4).toInt = ((m.1 151 4)).toInt := congrArg _ (g1.at (a := 151) (k := 4) (by decide))
  refine ⟨rfl, ?_⟩
  refine (s_X9_clear w_m1).to ?_
  rintro _ m2 ⟨w_m2, g3, rfl, p4⟩
  have f_m2 : Fx (RS [2, 10, 12, 14]) m m2 := f_m1.tr g3 (RS_sub rfl)
  have p5 : (m2.1 151 4).toInt = 0 := p4
  clear p4
  refine ⟨rfl, ?_⟩
  refine (s_X9_putSkillsOf w_m2 SS_167).to ?_
  rintro _ m3 ⟨w_m3, g6, v4, rfl, p11, p12, p7, p8, p9, p10⟩
  have f_m3 : Fx (RS [2, 10, 12, 14]) m m3 := f_m2.tr g6 (RS_sub rfl)
  have p13 : ((m2.1 151 4)).toInt ≤ (m3.1 151 4).toInt := p7
  clear p7
  have p14 : (m3.1 151 4).toInt ≤ ((m2.1 151 4)).toInt + 1 := p8
  clear p8
  have p15 : (m3.1 151 5).toInt = 0 ∨ v4.toInt = ((m2.1 151 4)).toInt := p9
  clear p9
  have p16 : 3000 ≤ ((m2.1 151 4)).toInt ∨ 0 ≤ v4.toInt := p10
  clear p10
  refine ⟨v4, rfl, ?_⟩
  have r17 := w_m3.at (a := 151) (k := 4) rfl
  exact (l_X7_findLoop (m0 := m) hb2 1000000) _ _ w_m3 f_m3 (by show (1 : Int) ≤ (1 : Int); omega) (by show (1 : Int) ≤ (2001 : Int); omega) (by show ((m3.1 151 4)).toInt ≤ (1 : Int); omega) (by show 2001 - (1 : Int) < _; omega)
set_option maxHeartbeats 4000000 in
theorem l_X7_loopSum {ad : Nat → Nat} {d : Nat} {m0 : Wm}  : ∀ n : Nat, (∀ (m : Wm) (x1 x2 x3 x4 : Int32), WT m → Fx (RS []) m0 m → (0 : Int) ≤ x4.toInt → x4.toInt ≤ (3000 : Int) → 3000 - x4.toInt < (n : Int) → AW ad E0 μX7_loopSum (d + 1) (fun r m' => WT m' ∧ Fx (RS []) m0 m' ∧ ∃ v : Int32, r = some (.int v)) 8 [(0, .ref (ad 166)), (1, .int x1), (2, .int x2), (3, .int x3), (4, .int x4)] [] m) := by
  intro n
  induction n with
  | zero =>
    intros
    exfalso
    omega
  | succ n ih =>
    intro m x1 x2 x3 x4 w f j1 j2 hn
    refine g_X7_loopSum_8  ?_
    refine ⟨?_, ?_⟩
    · intro c1
      have r2 := w.at (a := 151) (k := 4) rfl
      have k3 := z_le c1
      exact ⟨w, f, _, rfl⟩
    · intro c4
      have r5 := w.at (a := 151) (k := 4) rfl
      have k6 := z_nle c4
      refine (s_X9_skillIn w (by show (0 : Int) ≤ (x4).toInt; omega) (by show (x4).toInt ≤ (2999 : Int); omega)).to ?_
      rintro _ m1 ⟨w_m1, g7, v2, rfl, p8, p9⟩
      have f_m1 : Fx (RS []) m0 m1 := f.tr g7 (RS_sub rfl)
      refine ⟨v2, rfl, ?_⟩
      have t10 := ti_addc (x := x4) (y := (1 : Int32)) (c := 1) rfl (by omega)
      exact ih _ _ _ _ _ w_m1 f_m1 (by show (0 : Int) ≤ ((x4 + (1 : Int32))).toInt; omega) (by show ((x4 + (1 : Int32))).toInt ≤ (3000 : Int); omega) (by show 3000 - ((x4 + (1 : Int32))).toInt < _; omega)
set_option maxHeartbeats 4000000 in
theorem s_X7_loopSum {ad : Nat → Nat} {d : Nat} {m : Wm} {x1 x2 : Int32} (w : WT m) : Ct ad μX7_loopSum (d + 1) [.ref (ad 166), .int x1, .int x2] m (fun r m' => WT m' ∧ Fx (RS []) m m' ∧ ∃ v : Int32, r = some (.int v)) := by
  have f : Fx (RS []) m m := Fx.rf
  refine v_X7_loopSum  ?_
  have r1 := w.at (a := 166) (k := 3) rfl
  exact (l_X7_loopSum (m0 := m) 1000000) _ _ _ _ _ w f (by show (0 : Int) ≤ ((m.1 166 3)).toInt; omega) (by show ((m.1 166 3)).toInt ≤ (3000 : Int); omega) (by show 3000 - ((m.1 166 3)).toInt < _; omega)
set_option maxHeartbeats 4000000 in
theorem l_X7_followGame {ad : Nat → Nat} {d : Nat} {m0 : Wm} {b2 : Nat} (hb2 : b2 = 134 ∨ b2 = 140) : ∀ n : Nat, (∀ (m : Wm) (x3 x4 x5 x6 s0 : Int32), WT m → Fx (RS [2, 12, 14]) m0 m → (0 : Int) ≤ x3.toInt → x3.toInt ≤ (47 : Int) → (0 : Int) ≤ x5.toInt → x5.toInt ≤ (7 : Int) → (0 : Int) ≤ x6.toInt → x6.toInt ≤ (7 : Int) → 0 * x3.toInt + 5 < (n : Int) → AW ad E0 μX7_followGame (d + 5) (fun r m' => WT m' ∧ Fx (RS [2, 12, 14]) m0 m' ∧ r = none) 42 [(0, .ref (ad 166)), (1, .ref (ad 3)), (2, .ref (ad b2)), (3, .int x3), (4, .int x4), (5, .int x5), (6, .int x6)] [.int s0] m) ∧ (∀ (m : Wm) (x3 x4 x5 x6 : Int32) (z0 z1 : Int64), WT m → Fx (RS [2, 12, 14]) m0 m → (0 : Int) ≤ x3.toInt → x3.toInt ≤ (47 : Int) → (0 : Int) ≤ x5.toInt → x5.toInt ≤ (7 : Int) → (0 : Int) ≤ x6.toInt → x6.toInt ≤ (7 : Int) → 0 * x3.toInt + 4 < (n : Int) → AW ad E0 μX7_followGame (d + 5) (fun r m' => WT m' ∧ Fx (RS [2, 12, 14]) m0 m' ∧ r = none) 66 [(0, .ref (ad 166)), (1, .ref (ad 3)), (2, .ref (ad b2)), (3, .int x3), (4, .int x4), (5, .int x5), (6, .int x6)] [.long z0, .long z1, .ref (ad 166)] m) ∧ (∀ (m : Wm) (x3 x5 x6 s0 : Int32), WT m → Fx (RS [2, 12, 14]) m0 m → (0 : Int) ≤ x3.toInt → x3.toInt ≤ (47 : Int) → (0 : Int) ≤ x5.toInt → x5.toInt ≤ (7 : Int) → (0 : Int) ≤ x6.toInt → x6.toInt ≤ (7 : Int) → 0 * x3.toInt + 3 < (n : Int) → AW ad E0 μX7_followGame (d + 5) (fun r m' => WT m' ∧ Fx (RS [2, 12, 14]) m0 m' ∧ r = none) 80 [(0, .ref (ad 166)), (1, .ref (ad 3)), (2, .ref (ad b2)), (3, .int x3), (5, .int x5), (6, .int x6)] [.int s0] m) ∧ (∀ (m : Wm) (x5 x6 x8 : Int32), WT m → Fx (RS [2, 12, 14]) m0 m → (0 : Int) ≤ x5.toInt → x5.toInt ≤ (7 : Int) → (0 : Int) ≤ x6.toInt → x6.toInt ≤ (7 : Int) → 0 * x5.toInt + 2 < (n : Int) → AW ad E0 μX7_followGame (d + 5) (fun r m' => WT m' ∧ Fx (RS [2, 12, 14]) m0 m' ∧ r = none) 111 [(0, .ref (ad 166)), (1, .ref (ad 3)), (5, .int x5), (6, .int x6), (8, .int x8)] [] m) ∧ (∀ (m : Wm) (x5 x6 x8 : Int32), WT m → Fx (RS [2, 12, 14]) m0 m → (0 : Int) ≤ x5.toInt → x5.toInt ≤ (7 : Int) → (0 : Int) ≤ x6.toInt → x6.toInt ≤ (7 : Int) → 0 * x5.toInt + 1 < (n : Int) → AW ad E0 μX7_followGame (d + 5) (fun r m' => WT m' ∧ Fx (RS [2, 12, 14]) m0 m' ∧ r = none) 138 [(0, .ref (ad 166)), (1, .ref (ad 3)), (5, .int x5), (6, .int x6), (8, .int x8)] [] m) := by
  intro n
  induction n with
  | zero =>
    refine ⟨?_, ?_, ?_, ?_, ?_⟩ <;> intros <;> exfalso <;> omega
  | succ n ih =>
    refine ⟨?_, ?_, ?_, ?_, ?_⟩
    · intro m x3 x4 x5 x6 s0 w f j1 j2 j3 j4 j5 j6 hn
      refine g_X7_followGame_42 (Pl_of hb2) ?_
      refine ⟨?_, ?_⟩
      · intro c1
        have k2 := y_eqr (n := 0) rfl c1
        exact ih.2.1 _ _ _ _ _ _ _ w f (by show (0 : Int) ≤ (x3).toInt; omega) (by show (x3).toInt ≤ (47 : Int); omega) (by show (0 : Int) ≤ (x5).toInt; omega) (by show (x5).toInt ≤ (7 : Int); omega) (by show (0 : Int) ≤ (x6).toInt; omega) (by show (x6).toInt ≤ (7 : Int); omega) (by show 0 * (x3).toInt + 4 < _; omega)
      · intro c3
        have k4 := y_ner (n := 0) rfl c3
        exact ih.2.1 _ _ _ _ _ _ _ w f (by show (0 : Int) ≤ (x3).toInt; omega) (by show (x3).toInt ≤ (47 : Int); omega) (by show (0 : Int) ≤ (x5).toInt; omega) (by show (x5).toInt ≤ (7 : Int); omega) (by show (0 : Int) ≤ (x6).toInt; omega) (by show (x6).toInt ≤ (7 : Int); omega) (by show 0 * (x3).toInt + 4 < _; omega)
    · intro m x3 x4 x5 x6 z0 z1 w f j1 j2 j3 j4 j5 j6 hn
      refine g_X7_followGame_66 (Pl_of hb2) ?_
      refine ⟨?_, ?_⟩
      · intro c1
        have k2 := y_eqr (n := 0) rfl c1
        have w3 : WT (uL m 166 5 (z1 * z0)) := w.l
        have f3 : Fx (RS [2, 12, 14]) m0 (uL m 166 5 (z1 * z0)) := f.l rfl
        exact ih.2.2.1 _ _ _ _ _ w3 f3 (by show (0 : Int) ≤ (x3).toInt; omega) (by show (x3).toInt ≤ (47 : Int); omega) (by show (0 : Int) ≤ (x5).toInt; omega) (by show (x5).toInt ≤ (7 : Int); omega) (by show (0 : Int) ≤ (x6).toInt; omega) (by show (x6).toInt ≤ (7 : Int); omega) (by show 0 * (x3).toInt + 3 < _; omega)
      · intro c4
        have k5 := y_ner (n := 0) rfl c4
        have w6 : WT (uL m 166 5 (z1 * z0)) := w.l
        have f6 : Fx (RS [2, 12, 14]) m0 (uL m 166 5 (z1 * z0)) := f.l rfl
        exact ih.2.2.1 _ _ _ _ _ w6 f6 (by show (0 : Int) ≤ (x3).toInt; omega) (by show (x3).toInt ≤ (47 : Int); omega) (by show (0 : Int) ≤ (x5).toInt; omega) (by show (x5).toInt ≤ (7 : Int); omega) (by show (0 : Int) ≤ (x6).toInt; omega) (by show (x6).toInt ≤ (7 : Int); omega) (by show 0 * (x3).toInt + 3 < _; omega)
    · intro m x3 x5 x6 s0 w f j1 j2 j3 j4 j5 j6 hn
      refine g_X7_followGame_80 (Pl_of hb2) ?_
      refine ⟨?_, ?_⟩
      · exact vpi (by omega) (by omega)
      · refine ⟨?_, ?_⟩
        · intro c1
          have k2 := y_eqr (n := 0) rfl c1
          exact ih.2.2.2.1 _ _ _ _ w f (by show (0 : Int) ≤ (x5).toInt; omega) (by show (x5).toInt ≤ (7 : Int); omega) (by show (0 : Int) ≤ (x6).toInt; omega) (by show (x6).toInt ≤ (7 : Int); omega) (by show 0 * (x5).toInt + 2 < _; omega)
        · intro c3
          have k4 := y_ner (n := 0) rfl c3
          refine ⟨?_, ?_⟩
          · exact vpi (by omega) (by omega)
          · refine (s_X1_result w SS_167 (by show (0 : Int) ≤ (x5).toInt; omega) (by show (x5).toInt ≤ (7 : Int); omega) (by show (0 : Int) ≤ (x6).toInt; omega) (by show (x6).toInt ≤ (7 : Int); omega)).to ?_
            rintro _ m1 ⟨w_m1, g5, v2, rfl, p6, p7⟩
            have f_m1 : Fx (RS [2, 12, 14]) m0 m1 := f.tr g5 (RS_sub rfl)
            refine ⟨v2, rfl, ?_⟩
            exact ih.2.2.2.1 _ _ _ _ w_m1 f_m1 (by show (0 : Int) ≤ (x5).toInt; omega) (by show (x5).toInt ≤ (7 : Int); omega) (by show (0 : Int) ≤ (x6).toInt; omega) (by show (x6).toInt ≤ (7 : Int); omega) (by show 0 * (x5).toInt + 2 < _; omega)
    · intro m x5 x6 x8 w f j1 j2 j3 j4 hn
      refine g_X7_followGame_111  ?_
      refine ⟨?_, ?_⟩
      · intro c1
        have k2 := y_eqr (n := 2) rfl c1
        exact ih.2.2.2.2 _ _ _ _ w f (by show (0 : Int) ≤ (x5).toInt; omega) (by show (x5).toInt ≤ (7 : Int); omega) (by show (0 : Int) ≤ (x6).toInt; omega) (by show (x6).toInt ≤ (7 : Int); omega) (by show 0 * (x5).toInt + 1 < _; omega)
      · intro c3
        have k4 := y_ner (n := 2) rfl c3
        refine ⟨?_, ?_⟩
        · intro c5
          have k6 := y_ner (n := 0) rfl c5
          refine ⟨?_, ?_⟩
          · exact vpi (by omega) (by omega)
          · refine ⟨?_, ?_⟩
            · exact vpi (by omega) (by omega)
            · have w7 : WT (uI m 172 x6.toNatClampNeg ((m.1 172 x6.toNatClampNeg) + (1 : Int32))) := w.n rfl
              have f7 : Fx (RS [2, 12, 14]) m0 (uI m 172 x6.toNatClampNeg ((m.1 172 x6.toNatClampNeg) + (1 : Int32))) := f.i rfl
              exact ih.2.2.2.2 _ _ _ _ w7 f7 (by show (0 : Int) ≤ (x5).toInt; omega) (by show (x5).toInt ≤ (7 : Int); omega) (by show (0 : Int) ≤ (x6).toInt; omega) (by show (x6).toInt ≤ (7 : Int); omega) (by show 0 * (x5).toInt + 1 < _; omega)
        · intro c8
          have k9 := y_eqr (n := 0) rfl c8
          refine ⟨?_, ?_⟩
          · exact vpi (by omega) (by omega)
          · refine ⟨?_, ?_⟩
            · exact vpi (by omega) (by omega)
            · have w10 : WT (uI m 172 x5.toNatClampNeg ((m.1 172 x5.toNatClampNeg) + (1 : Int32))) := w.n rfl
              have f10 : Fx (RS [2, 12, 14]) m0 (uI m 172 x5.toNatClampNeg ((m.1 172 x5.toNatClampNeg) + (1 : Int32))) := f.i rfl
              exact ih.2.2.2.2 _ _ _ _ w10 f10 (by show (0 : Int) ≤ (x5).toInt; omega) (by show (x5).toInt ≤ (7 : Int); omega) (by show (0 : Int) ≤ (x6).toInt; omega) (by show (x6).toInt ≤ (7 : Int); omega) (by show 0 * (x5).toInt + 1 < _; omega)
    · intro m x5 x6 x8 w f j1 j2 j3 j4 hn
      refine g_X7_followGame_138  ?_
      refine (s_X1_settle w SS_167 (by show (0 : Int) ≤ (x5).toInt; omega) (by show (x5).toInt ≤ (7 : Int); omega) (by show (0 : Int) ≤ (x6).toInt; omega) (by show (x6).toInt ≤ (7 : Int); omega)).to ?_
      rintro _ m1 ⟨w_m1, g1, rfl⟩
      have f_m1 : Fx (RS [2, 12, 14]) m0 m1 := f.tr g1 (RS_sub rfl)
      refine ⟨rfl, ?_⟩
      exact ⟨w_m1, f_m1, rfl⟩
set_option maxHeartbeats 4000000 in
theorem s_X7_followGame {ad : Nat → Nat} {d : Nat} {m : Wm} {b2 : Nat} {x3 x4 : Int32} (w : WT m) (hb2 : b2 = 134 ∨ b2 = 140) (i1 : (0 : Int) ≤ x3.toInt) (i2 : x3.toInt ≤ (47 : Int)) : Ct ad μX7_followGame (d + 5) [.ref (ad 166), .ref (ad 3), .ref (ad b2), .int x3, .int x4] m (fun r m' => WT m' ∧ Fx (RS [2, 12, 14]) m m' ∧ r = none) := by
  have f : Fx (RS [2, 12, 14]) m m := Fx.rf
  refine v_X7_followGame (Pl_of hb2) ?_
  refine ⟨?_, ?_⟩
  · exact vpi (by omega) (by omega)
  · refine ⟨?_, ?_⟩
    · exact vpi (by omega) (by omega)
    · refine ⟨?_, ?_⟩
      · exact vpi (by omega) (by omega)
      · refine ⟨?_, ?_⟩
        · intro c1
          have k2 := y_eqr (n := 0) rfl c1
          have r3 := w.plj (j := 1) (k := x3.toNatClampNeg) hb2 rfl rfl
          have r4 := w.plj (j := 2) (k := x3.toNatClampNeg) hb2 rfl rfl
          refine (s_X1_chance w SS_167 (by show (0 : Int) ≤ ((m.1 (b2 + 1) x3.toNatClampNeg)).toInt; omega) (by show ((m.1 (b2 + 1) x3.toNatClampNeg)).toInt ≤ (7 : Int); omega) (by show (0 : Int) ≤ ((m.1 (b2 + 2) x3.toNatClampNeg)).toInt; omega) (by show ((m.1 (b2 + 2) x3.toNatClampNeg)).toInt ≤ (7 : Int); omega)).to ?_
          rintro _ m1 ⟨w_m1, g5, v2, rfl, p6, p7⟩
          have f_m1 : Fx (RS [2, 12, 14]) m m1 := f.tr g5 (RS_sub rfl)
          refine ⟨v2, rfl, ?_⟩
          exact (l_X7_followGame (m0 := m) hb2 1000000).1 _ _ _ _ _ _ w_m1 f_m1 (by show (0 : Int) ≤ (x3).toInt; omega) (by show (x3).toInt ≤ (47 : Int); omega) (by show (0 : Int) ≤ ((m.1 (b2 + 1) x3.toNatClampNeg)).toInt; omega) (by show ((m.1 (b2 + 1) x3.toNatClampNeg)).toInt ≤ (7 : Int); omega) (by show (0 : Int) ≤ ((m.1 (b2 + 2) x3.toNatClampNeg)).toInt; omega) (by show ((m.1 (b2 + 2) x3.toNatClampNeg)).toInt ≤ (7 : Int); omega) (by show 0 * (x3).toInt + 5 < _; omega)
        · intro c8
          have k9 := y_ner (n := 0) rfl c8
          have r10 := w.plj (j := 1) (k := x3.toNatClampNeg) hb2 rfl rfl
          have r11 := w.plj (j := 2) (k := x3.toNatClampNeg) hb2 rfl rfl
          exact (l_X7_followGame (m0 := m) hb2 1000000).1 _ _ _ _ _ _ w f (by show (0 : Int) ≤ (x3).toInt; omega) (by show (x3).toInt ≤ (47 : Int); omega) (by show (0 : Int) ≤ ((m.1 (b2 + 1) x3.toNatClampNeg)).toInt; omega) (by show ((m.1 (b2 + 1) x3.toNatClampNeg)).toInt ≤ (7 : Int); omega) (by show (0 : Int) ≤ ((m.1 (b2 + 2) x3.toNatClampNeg)).toInt; omega) (by show ((m.1 (b2 + 2) x3.toNatClampNeg)).toInt ≤ (7 : Int); omega) (by show 0 * (x3).toInt + 5 < _; omega)
set_option maxHeartbeats 4000000 in
theorem l_X7_follow {ad : Nat → Nat} {d : Nat} {m0 : Wm} {b2 : Nat} (hb2 : b2 = 134 ∨ b2 = 140) : ∀ n : Nat, (∀ (m : Wm) (x4 x5 x6 : Int32), WT m → Fx (RS [2, 12, 14]) m0 m → (0 : Int) ≤ x4.toInt → x4.toInt ≤ (6 : Int) → (0 : Int) ≤ x6.toInt → x6.toInt ≤ (8 : Int) → 1000 - x6.toInt < (n : Int) → AW ad E0 μX7_follow (d + 6) (fun r m' => WT m' ∧ Fx (RS [2, 12, 14]) m0 m' ∧ ∃ v : Int64, r = some (.long v)) 11 [(0, .ref (ad 166)), (1, .ref (ad 3)), (2, .ref (ad b2)), (4, .int x4), (5, .int x5), (6, .int x6)] [] m) ∧ (∀ (m : Wm) (x4 x5 x6 x7 : Int32), WT m → Fx (RS [2, 12, 14]) m0 m → (0 : Int) ≤ x4.toInt → x4.toInt ≤ (6 : Int) → (0 : Int) ≤ x6.toInt → x6.toInt ≤ (47 : Int) → (0 : Int) ≤ x7.toInt → x7.toInt ≤ (6 : Int) → (6 - x7.toInt) * 2 + 1 < (n : Int) → AW ad E0 μX7_follow (d + 6) (fun r m' => WT m' ∧ Fx (RS [2, 12, 14]) m0 m' ∧ ∃ v : Int64, r = some (.long v)) 43 [(0, .ref (ad 166)), (1, .ref (ad 3)), (2, .ref (ad b2)), (4, .int x4), (5, .int x5), (6, .int x6), (7, .int x7)] [] m) ∧ (∀ (m : Wm) (c2 : Nat) (x4 x5 x6 x7 s0 s1 : Int32), WT m → Fx (RS [2, 12, 14]) m0 m → (c2 = 134 ∨ c2 = 140) → (0 : Int) ≤ x4.toInt → x4.toInt ≤ (6 : Int) → (0 : Int) ≤ x6.toInt → x6.toInt ≤ (47 : Int) → (0 : Int) ≤ x7.toInt → x7.toInt ≤ (5 : Int) → (0 : Int) ≤ s1.toInt → s1.toInt ≤ (47 : Int) → (6 - x7.toInt) * 2 < (n : Int) → AW ad E0 μX7_follow (d + 6) (fun r m' => WT m' ∧ Fx (RS [2, 12, 14]) m0 m' ∧ ∃ v : Int64, r = some (.long v)) 79 [(0, .ref (ad 166)), (1, .ref (ad 3)), (2, .ref (ad b2)), (4, .int x4), (5, .int x5), (6, .int x6), (7, .int x7)] [.int s0, .int s1, .ref (ad c2), .ref (ad 3), .ref (ad 166)] m) := by
  intro n
  induction n with
  | zero =>
    refine ⟨?_, ?_, ?_⟩ <;> intros <;> exfalso <;> omega
  | succ n ih =>
    refine ⟨?_, ?_, ?_⟩
    · intro m x4 x5 x6 w f j1 j2 j3 j4 hn
      refine g_X7_follow_11 (Pl_of hb2) ?_
      refine ⟨?_, ?_⟩
      · intro c1
        have k2 := y_lel (n := 8) rfl c1
        have w3 : WT (uL m 166 5 (1 : Int64)) := w.l
        have f3 : Fx (RS [2, 12, 14]) m0 (uL m 166 5 (1 : Int64)) := f.l rfl
        exact ih.2.1 _ _ _ _ _ w3 f3 (by show (0 : Int) ≤ (x4).toInt; omega) (by show (x4).toInt ≤ (6 : Int); omega) (by show (0 : Int) ≤ (0 : Int); omega) (by show (0 : Int) ≤ (47 : Int); omega) (by show (0 : Int) ≤ (0 : Int); omega) (by show (0 : Int) ≤ (6 : Int); omega) (by show (6 - (0 : Int)) * 2 + 1 < _; omega)
      · intro c4
        have k5 := y_nlel (n := 8) rfl c4
        refine ⟨?_, ?_⟩
        · exact vpi (by omega) (by omega)
        · have w6 : WT (uI m 172 x6.toNatClampNeg (0 : Int32)) := w.n rfl
          have f6 : Fx (RS [2, 12, 14]) m0 (uI m 172 x6.toNatClampNeg (0 : Int32)) := f.i rfl
          have t7 := ti_addc (x := x6) (y := (1 : Int32)) (c := 1) rfl (by omega)
          exact ih.1 _ _ _ _ w6 f6 (by show (0 : Int) ≤ (x4).toInt; omega) (by show (x4).toInt ≤ (6 : Int); omega) (by show (0 : Int) ≤ ((x6 + (1 : Int32))).toInt; omega) (by show ((x6 + (1 : Int32))).toInt ≤ (8 : Int); omega) (by show 1000 - ((x6 + (1 : Int32))).toInt < _; omega)
    · intro m x4 x5 x6 x7 w f j1 j2 j3 j4 j5 j6 hn
      refine g_X7_follow_43 (Pl_of hb2) ?_
      refine ⟨?_, ?_⟩
      · intro c1
        have k2 := z_le c1
        exact ⟨w, f, _, rfl⟩
      · intro c3
        have k4 := z_nle c3
        refine ⟨?_, ?_⟩
        · intro c5
          exact ⟨w, f, _, rfl⟩
        · intro c6
          refine ⟨?_, ?_⟩
          · intro c7
            have t8 := t_and1 (x5 >>> (x7 &&& 31))
            have k9 := y_eqr (n := 0) rfl c7
            exact ih.2.2 _ _ _ _ _ _ _ _ w f hb2 (by show (0 : Int) ≤ (x4).toInt; omega) (by show (x4).toInt ≤ (6 : Int); omega) (by show (0 : Int) ≤ (x6).toInt; omega) (by show (x6).toInt ≤ (47 : Int); omega) (by show (0 : Int) ≤ (x7).toInt; omega) (by show (x7).toInt ≤ (5 : Int); omega) (by show (0 : Int) ≤ (x6).toInt; omega) (by show (x6).toInt ≤ (47 : Int); omega) (by show (6 - (x7).toInt) * 2 < _; omega)
          · intro c10
            have t11 := t_and1 (x5 >>> (x7 &&& 31))
            have k12 := y_ner (n := 0) rfl c10
            exact ih.2.2 _ _ _ _ _ _ _ _ w f hb2 (by show (0 : Int) ≤ (x4).toInt; omega) (by show (x4).toInt ≤ (6 : Int); omega) (by show (0 : Int) ≤ (x6).toInt; omega) (by show (x6).toInt ≤ (47 : Int); omega) (by show (0 : Int) ≤ (x7).toInt; omega) (by show (x7).toInt ≤ (5 : Int); omega) (by show (0 : Int) ≤ (x6).toInt; omega) (by show (x6).toInt ≤ (47 : Int); omega) (by show (6 - (x7).toInt) * 2 < _; omega)
    · intro m c2 x4 x5 x6 x7 s0 s1 w f hc2 j1 j2 j3 j4 j5 j6 j7 j8 hn
      refine g_X7_follow_79 (Pl_of hb2) (Pl_of hc2) ?_
      refine (s_X7_followGame w hc2 (by show (0 : Int) ≤ (s1).toInt; omega) (by show (s1).toInt ≤ (47 : Int); omega)).to ?_
      rintro _ m1 ⟨w_m1, g1, rfl⟩
      have f_m1 : Fx (RS [2, 12, 14]) m0 m1 := f.tr g1 (RS_sub rfl)
      refine ⟨rfl, ?_⟩
      refine ⟨?_, ?_⟩
      · intro c2
        have r3 := w_m1.pl (k := 6) hb2 rfl rfl
        have t4 := ti_addc (x := x6) (y := (1 : Int32)) (c := 1) rfl (by omega)
        have k5 := z_le c2
        have t6 := ti_addc (x := x7) (y := (1 : Int32)) (c := 1) rfl (by omega)
        exact ih.2.1 _ _ _ _ _ w_m1 f_m1 (by show (0 : Int) ≤ (x4).toInt; omega) (by show (x4).toInt ≤ (6 : Int); omega) (by show (0 : Int) ≤ (0 : Int); omega) (by show (0 : Int) ≤ (47 : Int); omega) (by show (0 : Int) ≤ ((x7 + (1 : Int32))).toInt; omega) (by show ((x7 + (1 : Int32))).toInt ≤ (6 : Int); omega) (by show (6 - ((x7 + (1 : Int32))).toInt) * 2 + 1 < _; omega)
      · intro c7
        have r8 := w_m1.pl (k := 6) hb2 rfl rfl
        have t9 := ti_addc (x := x6) (y := (1 : Int32)) (c := 1) rfl (by omega)
        have k10 := z_nle c7
        have t11 := ti_addc (x := x7) (y := (1 : Int32)) (c := 1) rfl (by omega)
        exact ih.2.1 _ _ _ _ _ w_m1 f_m1 (by show (0 : Int) ≤ (x4).toInt; omega) (by show (x4).toInt ≤ (6 : Int); omega) (by show (0 : Int) ≤ ((x6 + (1 : Int32))).toInt; omega) (by show ((x6 + (1 : Int32))).toInt ≤ (47 : Int); omega) (by show (0 : Int) ≤ ((x7 + (1 : Int32))).toInt; omega) (by show ((x7 + (1 : Int32))).toInt ≤ (6 : Int); omega) (by show (6 - ((x7 + (1 : Int32))).toInt) * 2 + 1 < _; omega)
set_option maxHeartbeats 4000000 in
theorem s_X7_follow {ad : Nat → Nat} {d : Nat} {m : Wm} {b2 : Nat} {x4 x5 : Int32} (w : WT m) (hb2 : b2 = 134 ∨ b2 = 140) (i1 : (0 : Int) ≤ x4.toInt) (i2 : x4.toInt ≤ (6 : Int)) : Ct ad μX7_follow (d + 6) [.ref (ad 166), .ref (ad 3), .ref (ad b2), .ref (ad 21), .int x4, .int x5] m (fun r m' => WT m' ∧ Fx (RS [2, 12, 14]) m m' ∧ ∃ v : Int64, r = some (.long v)) := by
  have f : Fx (RS [2, 12, 14]) m m := Fx.rf
  refine v_X7_follow (Pl_of hb2) St_21 ?_
  refine (s_X8_copy w SS_167 SS_21).to ?_
  rintro _ m1 ⟨w_m1, g1, rfl⟩
  have f_m1 : Fx (RS [2, 12, 14]) m m1 := f.tr g1 (RS_sub rfl)
  refine ⟨rfl, ?_⟩
  exact (l_X7_follow (m0 := m) hb2 1000000).1 _ _ _ _ w_m1 f_m1 (by show (0 : Int) ≤ (x4).toInt; omega) (by show (x4).toInt ≤ (6 : Int); omega) (by show (0 : Int) ≤ (0 : Int); omega) (by show (0 : Int) ≤ (8 : Int); omega) (by show 1000 - (0 : Int) < _; omega)
set_option maxHeartbeats 4000000 in
theorem s_X0_store_173 {ad : Nat → Nat} {d : Nat} {m : Wm} {x3 : Int32} (w : WT m) : Ct ad μX0_store (d + 2) [.ref (ad 173), .ref (ad 3), .ref (ad 21), .int x3] m (fun r m' => WT m' ∧ Fx (RS [13]) m m' ∧ r = none) := by
  have f : Fx (RS [13]) m m := Fx.rf
  refine v_X0_store Ke_173 St_21 ?_
  refine (s_X8_copy w SS_174 SS_21).to ?_
  rintro _ m1 ⟨w_m1, g1, rfl⟩
  have f_m1 : Fx (RS [13]) m m1 := f.tr g1 (RS_sub rfl)
  refine ⟨rfl, ?_⟩
  refine ⟨?_, ?_, ?_, ?_, ?_, ?_⟩
  · decide
  · decide
  · decide
  · decide
  · decide
  · have w2 : WT (uI m1 173 2 (m1.1 3 5)) := w_m1.n rfl
    have f2 : Fx (RS [13]) m (uI m1 173 2 (m1.1 3 5)) := f_m1.i rfl
    have w3 : WT (uC (uI m1 173 2 (m1.1 3 5)) 4 (173 + 6) ((0 : Int32).toNatClampNeg) ((0 : Int32).toNatClampNeg) ((5 : Int32).toNatClampNeg)) := w2.c (fun _ => rfl)
    have f3 : Fx (RS [13]) m (uC (uI m1 173 2 (m1.1 3 5)) 4 (173 + 6) ((0 : Int32).toNatClampNeg) ((0 : Int32).toNatClampNeg) ((5 : Int32).toNatClampNeg)) := f2.c (fun _ => rfl)
    have w4 : WT (uI (uC (uI m1 173 2 (m1.1 3 5)) 4 (173 + 6) ((0 : Int32).toNatClampNeg) ((0 : Int32).toNatClampNeg) ((5 : Int32).toNatClampNeg)) 173 3 x3) := w3.n rfl
    have f4 : Fx (RS [13]) m (uI (uC (uI m1 173 2 (m1.1 3 5)) 4 (173 + 6) ((0 : Int32).toNatClampNeg) ((0 : Int32).toNatClampNeg) ((5 : Int32).toNatClampNeg)) 173 3 x3) := f3.i rfl
    have w5 : WT (uI (uI (uC (uI m1 173 2 (m1.1 3 5)) 4 (173 + 6) ((0 : Int32).toNatClampNeg) ((0 : Int32).toNatClampNeg) ((5 : Int32).toNatClampNeg)) 173 3 x3) 173 4 (1 : Int32)) := w4.n rfl
    have f5 : Fx (RS [13]) m (uI (uI (uC (uI m1 173 2 (m1.1 3 5)) 4 (173 + 6) ((0 : Int32).toNatClampNeg) ((0 : Int32).toNatClampNeg) ((5 : Int32).toNatClampNeg)) 173 3 x3) 173 4 (1 : Int32)) := f4.i rfl
    exact ⟨w5, f5, rfl⟩
set_option maxHeartbeats 4000000 in
theorem s_X0_store_180 {ad : Nat → Nat} {d : Nat} {m : Wm} {x3 : Int32} (w : WT m) : Ct ad μX0_store (d + 2) [.ref (ad 180), .ref (ad 3), .ref (ad 21), .int x3] m (fun r m' => WT m' ∧ Fx (RS [13]) m m' ∧ r = none) := by
  have f : Fx (RS [13]) m m := Fx.rf
  refine v_X0_store Ke_180 St_21 ?_
  refine (s_X8_copy w SS_181 SS_21).to ?_
  rintro _ m1 ⟨w_m1, g1, rfl⟩
  have f_m1 : Fx (RS [13]) m m1 := f.tr g1 (RS_sub rfl)
  refine ⟨rfl, ?_⟩
  refine ⟨?_, ?_, ?_, ?_, ?_, ?_⟩
  · decide
  · decide
  · decide
  · decide
  · decide
  · have w2 : WT (uI m1 180 2 (m1.1 3 5)) := w_m1.n rfl
    have f2 : Fx (RS [13]) m (uI m1 180 2 (m1.1 3 5)) := f_m1.i rfl
    have w3 : WT (uC (uI m1 180 2 (m1.1 3 5)) 4 (180 + 6) ((0 : Int32).toNatClampNeg) ((0 : Int32).toNatClampNeg) ((5 : Int32).toNatClampNeg)) := w2.c (fun _ => rfl)
    have f3 : Fx (RS [13]) m (uC (uI m1 180 2 (m1.1 3 5)) 4 (180 + 6) ((0 : Int32).toNatClampNeg) ((0 : Int32).toNatClampNeg) ((5 : Int32).toNatClampNeg)) := f2.c (fun _ => rfl)
    have w4 : WT (uI (uC (uI m1 180 2 (m1.1 3 5)) 4 (180 + 6) ((0 : Int32).toNatClampNeg) ((0 : Int32).toNatClampNeg) ((5 : Int32).toNatClampNeg)) 180 3 x3) := w3.n rfl
    have f4 : Fx (RS [13]) m (uI (uC (uI m1 180 2 (m1.1 3 5)) 4 (180 + 6) ((0 : Int32).toNatClampNeg) ((0 : Int32).toNatClampNeg) ((5 : Int32).toNatClampNeg)) 180 3 x3) := f3.i rfl
    have w5 : WT (uI (uI (uC (uI m1 180 2 (m1.1 3 5)) 4 (180 + 6) ((0 : Int32).toNatClampNeg) ((0 : Int32).toNatClampNeg) ((5 : Int32).toNatClampNeg)) 180 3 x3) 180 4 (1 : Int32)) := w4.n rfl
    have f5 : Fx (RS [13]) m (uI (uI (uC (uI m1 180 2 (m1.1 3 5)) 4 (180 + 6) ((0 : Int32).toNatClampNeg) ((0 : Int32).toNatClampNeg) ((5 : Int32).toNatClampNeg)) 180 3 x3) 180 4 (1 : Int32)) := f4.i rfl
    exact ⟨w5, f5, rfl⟩
theorem s_X0_store {ad : Nat → Nat} {d : Nat} {m : Wm} {b0 : Nat} {x3 : Int32} (w : WT m) (hb0 : b0 = 173 ∨ b0 = 180) : Ct ad μX0_store (d + 2) [.ref (ad b0), .ref (ad 3), .ref (ad 21), .int x3] m (fun r m' => WT m' ∧ Fx (RS [13]) m m' ∧ r = none) := by
  rcases hb0 with rfl | rfl
  · exact s_X0_store_173 w
  · exact s_X0_store_180 w
set_option maxHeartbeats 4000000 in
theorem s_X0_restore_173 {ad : Nat → Nat} {d : Nat} {m : Wm} (w : WT m) : Ct ad μX0_restore (d + 2) [.ref (ad 173), .ref (ad 3), .ref (ad 21)] m (fun r m' => WT m' ∧ Fx (RS [4, 42, 43]) m m' ∧ r = none) := by
  have f : Fx (RS [4, 42, 43]) m m := Fx.rf
  refine v_X0_restore Ke_173 St_21 ?_
  refine (s_X8_copy w SS_21 SS_174).to ?_
  rintro _ m1 ⟨w_m1, g1, rfl⟩
  have f_m1 : Fx (RS [4, 42, 43]) m m1 := f.tr g1 (RS_sub rfl)
  refine ⟨rfl, ?_⟩
  refine ⟨?_, ?_, ?_, ?_, ?_, ?_⟩
  · decide
  · decide
  · decide
  · decide
  · decide
  · have w2 : WT (uI m1 3 5 (m1.1 173 2)) := w_m1.n rfl
    have f2 : Fx (RS [4, 42, 43]) m (uI m1 3 5 (m1.1 173 2)) := f_m1.i rfl
    have w3 : WT (uC (uI m1 3 5 (m1.1 173 2)) (173 + 6) 4 ((0 : Int32).toNatClampNeg) ((0 : Int32).toNatClampNeg) ((5 : Int32).toNatClampNeg)) := w2.c (fun _ => rfl)
    have f3 : Fx (RS [4, 42, 43]) m (uC (uI m1 3 5 (m1.1 173 2)) (173 + 6) 4 ((0 : Int32).toNatClampNeg) ((0 : Int32).toNatClampNeg) ((5 : Int32).toNatClampNeg)) := f2.c (fun _ => rfl)
    exact ⟨w3, f3, rfl⟩
set_option maxHeartbeats 4000000 in
theorem s_X0_restore_180 {ad : Nat → Nat} {d : Nat} {m : Wm} (w : WT m) : Ct ad μX0_restore (d + 2) [.ref (ad 180), .ref (ad 3), .ref (ad 21)] m (fun r m' => WT m' ∧ Fx (RS [4, 42, 43]) m m' ∧ r = none) := by
  have f : Fx (RS [4, 42, 43]) m m := Fx.rf
  refine v_X0_restore Ke_180 St_21 ?_
  refine (s_X8_copy w SS_21 SS_181).to ?_
  rintro _ m1 ⟨w_m1, g1, rfl⟩
  have f_m1 : Fx (RS [4, 42, 43]) m m1 := f.tr g1 (RS_sub rfl)
  refine ⟨rfl, ?_⟩
  refine ⟨?_, ?_, ?_, ?_, ?_, ?_⟩
  · decide
  · decide
  · decide
  · decide
  · decide
  · have w2 : WT (uI m1 3 5 (m1.1 180 2)) := w_m1.n rfl
    have f2 : Fx (RS [4, 42, 43]) m (uI m1 3 5 (m1.1 180 2)) := f_m1.i rfl
    have w3 : WT (uC (uI m1 3 5 (m1.1 180 2)) (180 + 6) 4 ((0 : Int32).toNatClampNeg) ((0 : Int32).toNatClampNeg) ((5 : Int32).toNatClampNeg)) := w2.c (fun _ => rfl)
    have f3 : Fx (RS [4, 42, 43]) m (uC (uI m1 3 5 (m1.1 180 2)) (180 + 6) 4 ((0 : Int32).toNatClampNeg) ((0 : Int32).toNatClampNeg) ((5 : Int32).toNatClampNeg)) := f2.c (fun _ => rfl)
    exact ⟨w3, f3, rfl⟩
theorem s_X0_restore {ad : Nat → Nat} {d : Nat} {m : Wm} {b0 : Nat} (w : WT m) (hb0 : b0 = 173 ∨ b0 = 180) : Ct ad μX0_restore (d + 2) [.ref (ad b0), .ref (ad 3), .ref (ad 21)] m (fun r m' => WT m' ∧ Fx (RS [4, 42, 43]) m m' ∧ r = none) := by
  rcases hb0 with rfl | rfl
  · exact s_X0_restore_173 w
  · exact s_X0_restore_180 w
set_option maxHeartbeats 4000000 in
theorem l_X10_add {ad : Nat → Nat} {d : Nat} {m0 : Wm}  : ∀ n : Nat, (∀ (m : Wm) (x1 x2 : Int32), WT m → Fx (RS [0]) m0 m → (0 : Int) ≤ x2.toInt → x2.toInt ≤ (4 : Int) → ((m.1 1 1).toInt = (m0.1 1 1).toInt + x2.toInt) → ((m0.1 1 1).toInt ≤ 76) → 4 - x2.toInt < (n : Int) → AW ad E0 μX10_add d (fun r m' => WT m' ∧ Fx (RS [0]) m0 m' ∧ ∃ v : Int32, r = some (.int v) ∧ (0 : Int) ≤ v.toInt ∧ v.toInt ≤ 1 ∧ ((v.toInt = 0 ∧ (m'.1 1 1).toInt = (m0.1 1 1).toInt ∧ 76 < (m0.1 1 1).toInt) ∨ (v.toInt = 1 ∧ (m'.1 1 1).toInt = (m0.1 1 1).toInt + 4 ∧ (m0.1 1 1).toInt ≤ 76))) 13 [(0, .ref (ad 1)), (1, .int x1), (2, .int x2)] [] m) := by
  intro n
  induction n with
  | zero =>
    intros
    exfalso
    omega
  | succ n ih =>
    intro m x1 x2 w f j1 j2 j3 j4 hn
    refine g_X10_add_13  ?_
    refine ⟨?_, ?_⟩
    · intro c1
      have k2 := y_lel (n := 4) rfl c1
      have r3 := w.at (a := 1) (k := 1) rfl
      exact ⟨w, f, _, rfl, (by show (0 : Int) ≤ (1 : Int); omega), (by show (1 : Int) ≤ (1 : Int); omega), (by show ((1 : Int) = 0 ∧ ((m.1 1 1)).toInt = (m0.1 1 1).toInt ∧ 76 < (m0.1 1 1).toInt) ∨ ((1 : Int) = 1 ∧ ((m.1 1 1)).toInt = (m0.1 1 1).toInt + 4 ∧ (m0.1 1 1).toInt ≤ 76); omega)⟩
    · intro c4
      have k5 := y_nlel (n := 4) rfl c4
      refine ⟨?_, ?_⟩
      · have r6 := w.at (a := 1) (k := 1) rfl
        exact vpi (by omega) (by omega)
      · have w7 : WT (uI m 2 ((m.1 1 1).toNatClampNeg) (vp_nar .char ((((x1.toUInt32 >>> (((24 : Int32) - ((8 : Int32) * x2)).toUInt32 &&& (Int32.toUInt32 31))).toInt32 &&& (255 : Int32)).toUInt32 % 65536).toInt32))) := w.n rfl
        have f7 : Fx (RS [0]) m0 (uI m 2 ((m.1 1 1).toNatClampNeg) (vp_nar .char ((((x1.toUInt32 >>> (((24 : Int32) - ((8 : Int32) * x2)).toUInt32 &&& (Int32.toUInt32 31))).toInt32 &&& (255 : Int32)).toUInt32 % 65536).toInt32))) := f.i rfl
        have r9 := w.at (a := 1) (k := 1) rfl
        have t10 := ti_addc (x := (m.1 1 1)) (y := (1 : Int32)) (c := 1) rfl (by omega)
        have w8 : WT (uI (uI m 2 ((m.1 1 1).toNatClampNeg) (vp_nar .char ((((x1.toUInt32 >>> (((24 : Int32) - ((8 : Int32) * x2)).toUInt32 &&& (Int32.toUInt32 31))).toInt32 &&& (255 : Int32)).toUInt32 % 65536).toInt32))) 1 1 (((uI m 2 ((m.1 1 1).toNatClampNeg) (vp_nar .char ((((x1.toUInt32 >>> (((24 : Int32) - ((8 : Int32) * x2)).toUInt32 &&& (Int32.toUInt32 31))).toInt32 &&& (255 : Int32)).toUInt32 % 65536).toInt32))).1 1 1) + (1 : Int32))) := w7.t rfl (by show (0 : Int) ≤ (((m.1 1 1) + (1 : Int32))).toInt; omega) (by show (((m.1 1 1) + (1 : Int32))).toInt ≤ 80; omega)
        have f8 : Fx (RS [0]) m0 (uI (uI m 2 ((m.1 1 1).toNatClampNeg) (vp_nar .char ((((x1.toUInt32 >>> (((24 : Int32) - ((8 : Int32) * x2)).toUInt32 &&& (Int32.toUInt32 31))).toInt32 &&& (255 : Int32)).toUInt32 % 65536).toInt32))) 1 1 (((uI m 2 ((m.1 1 1).toNatClampNeg) (vp_nar .char ((((x1.toUInt32 >>> (((24 : Int32) - ((8 : Int32) * x2)).toUInt32 &&& (Int32.toUInt32 31))).toInt32 &&& (255 : Int32)).toUInt32 % 65536).toInt32))).1 1 1) + (1 : Int32))) := f7.i rfl
        have t11 := ti_addc (x := x2) (y := (1 : Int32)) (c := 1) rfl (by omega)
        exact ih _ _ _ w8 f8 (by show (0 : Int) ≤ ((x2 + (1 : Int32))).toInt; omega) (by show ((x2 + (1 : Int32))).toInt ≤ (4 : Int); omega) (by show (((m.1 1 1) + (1 : Int32))).toInt = (m0.1 1 1).toInt + ((x2 + (1 : Int32))).toInt; omega) (by show (m0.1 1 1).toInt ≤ 76; omega) (by show 4 - ((x2 + (1 : Int32))).toInt < _; omega)
set_option maxHeartbeats 4000000 in
theorem s_X10_add {ad : Nat → Nat} {d : Nat} {m : Wm} {x1 : Int32} (w : WT m) : Ct ad μX10_add d [.ref (ad 1), .int x1] m (fun r m' => WT m' ∧ Fx (RS [0]) m m' ∧ ∃ v : Int32, r = some (.int v) ∧ (0 : Int) ≤ v.toInt ∧ v.toInt ≤ 1 ∧ ((v.toInt = 0 ∧ (m'.1 1 1).toInt = (m.1 1 1).toInt ∧ 76 < (m.1 1 1).toInt) ∨ (v.toInt = 1 ∧ (m'.1 1 1).toInt = (m.1 1 1).toInt + 4 ∧ (m.1 1 1).toInt ≤ 76))) := by
  have f : Fx (RS [0]) m m := Fx.rf
  refine v_X10_add  ?_
  refine ⟨?_, ?_⟩
  · intro c1
    have r2 := w.at (a := 1) (k := 1) rfl
    have k3 := y_ler (n := 76) rfl c1
    exact (l_X10_add (m0 := m) 1000000) _ _ _ w f (by show (0 : Int) ≤ (0 : Int); omega) (by show (0 : Int) ≤ (4 : Int); omega) (by show ((m.1 1 1)).toInt = (m.1 1 1).toInt + (0 : Int); omega) (by show (m.1 1 1).toInt ≤ 76; omega) (by show 4 - (0 : Int) < _; omega)
  · intro c4
    have r5 := w.at (a := 1) (k := 1) rfl
    have k6 := y_nler (n := 76) rfl c4
    exact ⟨w, f, _, rfl, (by show (0 : Int) ≤ (0 : Int); omega), (by show (0 : Int) ≤ (1 : Int); omega), (by show ((0 : Int) = 0 ∧ ((m.1 1 1)).toInt = (m.1 1 1).toInt ∧ 76 < (m.1 1 1).toInt) ∨ ((0 : Int) = 1 ∧ ((m.1 1 1)).toInt = (m.1 1 1).toInt + 4 ∧ (m.1 1 1).toInt ≤ 76); omega)⟩
set_option maxHeartbeats 4000000 in
theorem s_X10_cut {ad : Nat → Nat} {d : Nat} {m : Wm} {x1 : Int32} (w : WT m) : Ct ad μX10_cut d [.ref (ad 1), .int x1] m (fun r m' => WT m' ∧ Fx (RS [0]) m m' ∧ ∃ v : Int32, r = some (.int v) ∧ (0 : Int) ≤ v.toInt ∧ v.toInt ≤ 1 ∧ ((v.toInt = 0 ∧ (m'.1 1 1).toInt = (m.1 1 1).toInt ∧ (x1.toInt < 0 ∨ (m.1 1 1).toInt < x1.toInt)) ∨ (v.toInt = 1 ∧ (m'.1 1 1).toInt = x1.toInt ∧ 0 ≤ x1.toInt ∧ x1.toInt ≤ (m.1 1 1).toInt))) := by
  have f : Fx (RS [0]) m m := Fx.rf
  refine v_X10_cut  ?_
  refine ⟨?_, ?_⟩
  · intro c1
    have k2 := y_ltr (n := 0) rfl c1
    have r3 := w.at (a := 1) (k := 1) rfl
    exact ⟨w, f, _, rfl, (by show (0 : Int) ≤ (0 : Int); omega), (by show (0 : Int) ≤ (1 : Int); omega), (by show ((0 : Int) = 0 ∧ ((m.1 1 1)).toInt = (m.1 1 1).toInt ∧ (x1.toInt < 0 ∨ (m.1 1 1).toInt < x1.toInt)) ∨ ((0 : Int) = 1 ∧ ((m.1 1 1)).toInt = x1.toInt ∧ 0 ≤ x1.toInt ∧ x1.toInt ≤ (m.1 1 1).toInt); omega)⟩
  · intro c4
    have k5 := y_nltr (n := 0) rfl c4
    refine ⟨?_, ?_⟩
    · intro c6
      have r7 := w.at (a := 1) (k := 1) rfl
      have k8 := z_le c6
      have w9 : WT (uI m 1 1 x1) := w.t rfl (by show (0 : Int) ≤ (x1).toInt; omega) (by show (x1).toInt ≤ 80; omega)
      have f9 : Fx (RS [0]) m (uI m 1 1 x1) := f.i rfl
      exact ⟨w9, f9, _, rfl, (by show (0 : Int) ≤ (1 : Int); omega), (by show (1 : Int) ≤ (1 : Int); omega), (by show ((1 : Int) = 0 ∧ (x1).toInt = (m.1 1 1).toInt ∧ (x1.toInt < 0 ∨ (m.1 1 1).toInt < x1.toInt)) ∨ ((1 : Int) = 1 ∧ (x1).toInt = x1.toInt ∧ 0 ≤ x1.toInt ∧ x1.toInt ≤ (m.1 1 1).toInt); omega)⟩
    · intro c10
      have r11 := w.at (a := 1) (k := 1) rfl
      have k12 := z_nle c10
      exact ⟨w, f, _, rfl, (by show (0 : Int) ≤ (0 : Int); omega), (by show (0 : Int) ≤ (1 : Int); omega), (by show ((0 : Int) = 0 ∧ ((m.1 1 1)).toInt = (m.1 1 1).toInt ∧ (x1.toInt < 0 ∨ (m.1 1 1).toInt < x1.toInt)) ∨ ((0 : Int) = 1 ∧ ((m.1 1 1)).toInt = x1.toInt ∧ 0 ≤ x1.toInt ∧ x1.toInt ≤ (m.1 1 1).toInt); omega)⟩
