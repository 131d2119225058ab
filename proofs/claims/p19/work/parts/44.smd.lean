/-! SAFETY OF THE MODEL, BY PROGRAM (goQuiet .. row) -/
set_option maxHeartbeats 4000000 in
theorem l_X12_goQuiet {ad : Nat → Nat} {d : Nat} {m0 : Wm}  : ∀ n : Nat, (∀ (m : Wm) (x4 : Int32), WT m → Fx (RS [22, 24, 28]) m0 m → (0 : Int) ≤ x4.toInt → x4.toInt ≤ (8 : Int) → 8 - x4.toInt < (n : Int) → AW ad E0 μX12_goQuiet (d + 170) (fun r m' => WT m' ∧ Fx (RS [22, 24, 28]) m0 m' ∧ r = none) 17 [(0, .ref (ad 187)), (4, .int x4)] [] m) := by
  intro n
  induction n with
  | zero =>
    intros
    exfalso
    omega
  | succ n ih =>
    intro m x4 w f j1 j2 hn
    refine g_X12_goQuiet_17  ?_
    refine ⟨?_, ?_⟩
    · intro c1
      have k2 := y_lel (n := 8) rfl c1
      exact ⟨w, f, rfl⟩
    · intro c3
      have k4 := y_nlel (n := 8) rfl c3
      refine ⟨?_, ?_⟩
      · have t5 := ti_mulc (c := 3) (y := (3 : Int32)) (x := x4) rfl (by omega)
        have t6 := ti_addl (x := (32 : Int32)) (y := ((3 : Int32) * x4)) (c := 32) rfl (by omega)
        exact vpi (by omega) (by omega)
      · refine ⟨?_, ?_⟩
        · exact vpi (by omega) (by omega)
        · refine ⟨?_, ?_⟩
          · have t7 := ti_mulc (c := 3) (y := (3 : Int32)) (x := x4) rfl (by omega)
            have t8 := ti_addl (x := (32 : Int32)) (y := ((3 : Int32) * x4)) (c := 32) rfl (by omega)
            have t9 := ti_addc (x := ((32 : Int32) + ((3 : Int32) * x4))) (y := (1 : Int32)) (c := 1) rfl (by omega)
            exact vpi (by omega) (by omega)
          · refine ⟨?_, ?_⟩
            · exact vpi (by omega) (by omega)
            · refine ⟨?_, ?_⟩
              · have t10 := ti_mulc (c := 3) (y := (3 : Int32)) (x := x4) rfl (by omega)
                have t11 := ti_addl (x := (32 : Int32)) (y := ((3 : Int32) * x4)) (c := 32) rfl (by omega)
                have t12 := ti_addc (x := ((32 : Int32) + ((3 : Int32) * x4))) (y := (2 : Int32)) (c := 2) rfl (by omega)
                exact vpi (by omega) (by omega)
              · refine ⟨?_, ?_⟩
                · exact vpi (by omega) (by omega)
                · have w13 : WT (uI m 190 x4.toNatClampNeg (m.1 204 (((32 : Int32) + ((3 : Int32) * x4)).toNatClampNeg))) := w.n rfl
                  have f13 : Fx (RS [22, 24, 28]) m0 (uI m 190 x4.toNatClampNeg (m.1 204 (((32 : Int32) + ((3 : Int32) * x4)).toNatClampNeg))) := f.i rfl
                  have w14 : WT (uI (uI m 190 x4.toNatClampNeg (m.1 204 (((32 : Int32) + ((3 : Int32) * x4)).toNatClampNeg))) 191 x4.toNatClampNeg ((uI m 190 x4.toNatClampNeg (m.1 204 (((32 : Int32) + ((3 : Int32) * x4)).toNatClampNeg))).1 204 ((((32 : Int32) + ((3 : Int32) * x4)) + (1 : Int32)).toNatClampNeg))) := w13.n rfl
                  have f14 : Fx (RS [22, 24, 28]) m0 (uI (uI m 190 x4.toNatClampNeg (m.1 204 (((32 : Int32) + ((3 : Int32) * x4)).toNatClampNeg))) 191 x4.toNatClampNeg ((uI m 190 x4.toNatClampNeg (m.1 204 (((32 : Int32) + ((3 : Int32) * x4)).toNatClampNeg))).1 204 ((((32 : Int32) + ((3 : Int32) * x4)) + (1 : Int32)).toNatClampNeg))) := f13.i rfl
                  have w15 : WT (uI (uI (uI m 190 x4.toNatClampNeg (m.1 204 (((32 : Int32) + ((3 : Int32) * x4)).toNatClampNeg))) 191 x4.toNatClampNeg ((uI m 190 x4.toNatClampNeg (m.1 204 (((32 : Int32) + ((3 : Int32) * x4)).toNatClampNeg))).1 204 ((((32 : Int32) + ((3 : Int32) * x4)) + (1 : Int32)).toNatClampNeg))) 192 x4.toNatClampNeg ((uI (uI m 190 x4.toNatClampNeg (m.1 204 (((32 : Int32) + ((3 : Int32) * x4)).toNatClampNeg))) 191 x4.toNatClampNeg ((uI m 190 x4.toNatClampNeg (m.1 204 (((32 : Int32) + ((3 : Int32) * x4)).toNatClampNeg))).1 204 ((((32 : Int32) + ((3 : Int32) * x4)) + (1 : Int32)).toNatClampNeg))).1 204 ((((32 : Int32) + ((3 : Int32) * x4)) + (2 : Int32)).toNatClampNeg))) := w14.n rfl
                  have f15 : Fx (RS [22, 24, 28]) m0 (uI (uI (uI m 190 x4.toNatClampNeg (m.1 204 (((32 : Int32) + ((3 : Int32) * x4)).toNatClampNeg))) 191 x4.toNatClampNeg ((uI m 190 x4.toNatClampNeg (m.1 204 (((32 : Int32) + ((3 : Int32) * x4)).toNatClampNeg))).1 204 ((((32 : Int32) + ((3 : Int32) * x4)) + (1 : Int32)).toNatClampNeg))) 192 x4.toNatClampNeg ((uI (uI m 190 x4.toNatClampNeg (m.1 204 (((32 : Int32) + ((3 : Int32) * x4)).toNatClampNeg))) 191 x4.toNatClampNeg ((uI m 190 x4.toNatClampNeg (m.1 204 (((32 : Int32) + ((3 : Int32) * x4)).toNatClampNeg))).1 204 ((((32 : Int32) + ((3 : Int32) * x4)) + (1 : Int32)).toNatClampNeg))).1 204 ((((32 : Int32) + ((3 : Int32) * x4)) + (2 : Int32)).toNatClampNeg))) := f14.i rfl
                  have t16 := ti_addc (x := x4) (y := (1 : Int32)) (c := 1) rfl (by omega)
                  exact ih _ _ w15 f15 (by show (0 : Int) ≤ ((x4 + (1 : Int32))).toInt; omega) (by show ((x4 + (1 : Int32))).toInt ≤ (8 : Int); omega) (by show 8 - ((x4 + (1 : Int32))).toInt < _; omega)
set_option maxHeartbeats 4000000 in
theorem s_X12_goQuiet {ad : Nat → Nat} {d : Nat} {m : Wm} {x1 x2 x3 : Int32} (w : WT m) (i1 : (0 : Int) ≤ x1.toInt) (i2 : x1.toInt ≤ (7 : Int)) (i3 : (0 : Int) ≤ x2.toInt) (i4 : x2.toInt ≤ (7 : Int)) : Ct ad μX12_goQuiet (d + 170) [.ref (ad 187), .int x1, .int x2, .int x3] m (fun r m' => WT m' ∧ Fx (RS [22, 24, 28]) m m' ∧ r = none) := by
  have f : Fx (RS [22, 24, 28]) m m := Fx.rf
  refine v_X12_goQuiet  ?_
  refine (s_X12_winner w (by show (0 : Int) ≤ (x1).toInt; omega) (by show (x1).toInt ≤ (7 : Int); omega) (by show (0 : Int) ≤ (x2).toInt; omega) (by show (x2).toInt ≤ (7 : Int); omega)).to ?_
  rintro _ m1 ⟨w_m1, g1, v2, rfl, p2, p3⟩
  have f_m1 : Fx (RS [22, 24, 28]) m m1 := f.tr g1 (RS_sub rfl)
  have e4 : (m1.1 187 1).toInt = ((m.1 187 1)).toInt := congrArg _ (g1.at (a := 187) (k := 1) (by decide))
  have e5 : (m1.1 187 0).toInt = ((m.1 187 0)).toInt := congrArg _ (g1.at (a := 187) (k := 0) (by decide))
  refine ⟨v2, rfl, ?_⟩
  refine (s_X12_settle w_m1 (by show (0 : Int) ≤ (x1).toInt; omega) (by show (x1).toInt ≤ (7 : Int); omega) (by show (0 : Int) ≤ (x2).toInt; omega) (by show (x2).toInt ≤ (7 : Int); omega)).to ?_
  rintro _ m3 ⟨w_m3, g6, rfl⟩
  have f_m3 : Fx (RS [22, 24, 28]) m m3 := f_m1.tr g6 (RS_sub rfl)
  have e7 : (m3.1 187 1).toInt = ((m1.1 187 1)).toInt := congrArg _ (g6.at (a := 187) (k := 1) (by decide))
  have e8 : (m3.1 187 0).toInt = ((m1.1 187 0)).toInt := congrArg _ (g6.at (a := 187) (k := 0) (by decide))
  refine ⟨rfl, ?_⟩
  exact (l_X12_goQuiet (m0 := m) 1000000) _ _ w_m3 f_m3 (by show (0 : Int) ≤ (0 : Int); omega) (by show (0 : Int) ≤ (8 : Int); omega) (by show 8 - (0 : Int) < _; omega)
set_option maxHeartbeats 4000000 in
theorem l_X12_half {ad : Nat → Nat} {d : Nat} {m0 : Wm}  : ∀ n : Nat, (∀ (m : Wm) (x1 x4 : Int32) (y2 : Int64), WT m → Fx (RS []) m0 m → (0 : Int) ≤ x1.toInt → x1.toInt ≤ (16 : Int) → (0 : Int) ≤ x4.toInt → x4.toInt ≤ (16 : Int) → 16 - x4.toInt < (n : Int) → AW ad E0 μX12_half d (fun r m' => WT m' ∧ Fx (RS []) m0 m' ∧ ∃ v : Int64, r = some (.long v)) 5 [(0, .ref (ad 187)), (1, .int x1), (2, .long y2), (4, .int x4)] [] m) := by
  intro n
  induction n with
  | zero =>
    intros
    exfalso
    omega
  | succ n ih =>
    intro m x1 x4 y2 w f j1 j2 j3 j4 hn
    refine g_X12_half_5  ?_
    refine ⟨?_, ?_⟩
    · intro c1
      have k2 := y_lel (n := 16) rfl c1
      exact ⟨w, f, _, rfl⟩
    · intro c3
      have k4 := y_nlel (n := 16) rfl c3
      refine ⟨?_, ?_⟩
      · have t5 := ti_add (x := x1) (y := x4) (by omega)
        exact vpi (by omega) (by omega)
      · have t6 := ti_addc (x := x4) (y := (1 : Int32)) (c := 1) rfl (by omega)
        exact ih _ _ _ _ w f (by show (0 : Int) ≤ (x1).toInt; omega) (by show (x1).toInt ≤ (16 : Int); omega) (by show (0 : Int) ≤ ((x4 + (1 : Int32))).toInt; omega) (by show ((x4 + (1 : Int32))).toInt ≤ (16 : Int); omega) (by show 16 - ((x4 + (1 : Int32))).toInt < _; omega)
set_option maxHeartbeats 4000000 in
theorem s_X12_half {ad : Nat → Nat} {d : Nat} {m : Wm} {x1 : Int32} (w : WT m) (i1 : (0 : Int) ≤ x1.toInt) (i2 : x1.toInt ≤ (16 : Int)) : Ct ad μX12_half d [.ref (ad 187), .int x1] m (fun r m' => WT m' ∧ Fx (RS []) m m' ∧ ∃ v : Int64, r = some (.long v)) := by
  have f : Fx (RS []) m m := Fx.rf
  refine v_X12_half  ?_
  exact (l_X12_half (m0 := m) 1000000) _ _ _ _ w f (by show (0 : Int) ≤ (x1).toInt; omega) (by show (x1).toInt ≤ (16 : Int); omega) (by show (0 : Int) ≤ (0 : Int); omega) (by show (0 : Int) ≤ (16 : Int); omega) (by show 16 - (0 : Int) < _; omega)
set_option maxHeartbeats 4000000 in
theorem l_X12_load {ad : Nat → Nat} {d : Nat} {m0 : Wm}  : ∀ n : Nat, (∀ (m : Wm) (x6 : Int32) (y2 y4 : Int64), WT m → Fx (RS [24]) m0 m → (-1 : Int) ≤ x6.toInt → x6.toInt ≤ (15 : Int) → x6.toInt + 1 < (n : Int) → AW ad E0 μX12_load d (fun r m' => WT m' ∧ Fx (RS [24]) m0 m' ∧ r = none) 19 [(0, .ref (ad 187)), (2, .long y2), (4, .long y4), (6, .int x6)] [] m) := by
  intro n
  induction n with
  | zero =>
    intros
    exfalso
    omega
  | succ n ih =>
    intro m x6 y2 y4 w f j1 j2 hn
    refine g_X12_load_19  ?_
    refine ⟨?_, ?_⟩
    · intro c1
      have k2 := y_ltr (n := 0) rfl c1
      exact ⟨w, f, rfl⟩
    · intro c3
      have k4 := y_nltr (n := 0) rfl c3
      refine ⟨?_, ?_⟩
      · exact vpi (by omega) (by omega)
      · refine ⟨?_, ?_⟩
        · have t5 := ti_addl (x := (16 : Int32)) (y := x6) (c := 16) rfl (by omega)
          exact vpi (by omega) (by omega)
        · have w6 : WT (uI m 188 x6.toNatClampNeg ((y2 &&& (7 : Int64)).toInt32)) := w.n rfl
          have f6 : Fx (RS [24]) m0 (uI m 188 x6.toNatClampNeg ((y2 &&& (7 : Int64)).toInt32)) := f.i rfl
          have w7 : WT (uI (uI m 188 x6.toNatClampNeg ((y2 &&& (7 : Int64)).toInt32)) 188 (((16 : Int32) + x6).toNatClampNeg) ((y4 &&& (7 : Int64)).toInt32)) := w6.n rfl
          have f7 : Fx (RS [24]) m0 (uI (uI m 188 x6.toNatClampNeg ((y2 &&& (7 : Int64)).toInt32)) 188 (((16 : Int32) + x6).toNatClampNeg) ((y4 &&& (7 : Int64)).toInt32)) := f6.i rfl
          have t8 := ti_addc (x := x6) (y := (-1 : Int32)) (c := -1) rfl (by omega)
          exact ih _ _ _ _ w7 f7 (by show (-1 : Int) ≤ ((x6 + (-1 : Int32))).toInt; omega) (by show ((x6 + (-1 : Int32))).toInt ≤ (15 : Int); omega) (by show ((x6 + (-1 : Int32))).toInt + 1 < _; omega)
set_option maxHeartbeats 4000000 in
theorem s_X12_load {ad : Nat → Nat} {d : Nat} {m : Wm} {x1 : Int32} (w : WT m) (i1 : (0 : Int) ≤ x1.toInt) (i2 : x1.toInt ≤ (2999 : Int)) : Ct ad μX12_load d [.ref (ad 187), .int x1] m (fun r m' => WT m' ∧ Fx (RS [24]) m m' ∧ r = none) := by
  have f : Fx (RS [24]) m m := Fx.rf
  refine v_X12_load  ?_
  refine ⟨?_, ?_⟩
  · exact vpi (by omega) (by omega)
  · refine ⟨?_, ?_⟩
    · exact vpi (by omega) (by omega)
    · exact (l_X12_load (m0 := m) 1000000) _ _ _ _ w f (by show (-1 : Int) ≤ (15 : Int); omega) (by show (15 : Int) ≤ (15 : Int); omega) (by show (15 : Int) + 1 < _; omega)
set_option maxHeartbeats 4000000 in
theorem l_X12_goTurn {ad : Nat → Nat} {d : Nat} {m0 : Wm}  : ∀ n : Nat, (∀ (m : Wm) (x1 : Int32), WT m → Fx (RS [22, 24, 28]) m0 m → (0 : Int) ≤ x1.toInt → x1.toInt ≤ (40 : Int) → 40 - x1.toInt < (n : Int) → AW ad E0 μX12_goTurn (d + 171) (fun r m' => WT m' ∧ Fx (RS [22, 24, 28]) m0 m' ∧ r = none) 2 [(0, .ref (ad 187)), (1, .int x1)] [] m) := by
  intro n
  induction n with
  | zero =>
    intros
    exfalso
    omega
  | succ n ih =>
    intro m x1 w f j1 j2 hn
    refine g_X12_goTurn_2  ?_
    refine ⟨?_, ?_⟩
    · intro c1
      have r2 := w.at (a := 187) (k := 10) rfl
      have k3 := z_le c1
      exact ⟨w, f, rfl⟩
    · intro c4
      have r5 := w.at (a := 187) (k := 10) rfl
      have k6 := z_nle c4
      refine ⟨?_, ?_⟩
      · have t7 := ti_mulc (c := 4) (y := (4 : Int32)) (x := x1) rfl (by omega)
        exact vpi (by omega) (by omega)
      · refine ⟨?_, ?_⟩
        · have t8 := ti_mulc (c := 4) (y := (4 : Int32)) (x := x1) rfl (by omega)
          have t9 := ti_addc (x := ((4 : Int32) * x1)) (y := (1 : Int32)) (c := 1) rfl (by omega)
          exact vpi (by omega) (by omega)
        · refine ⟨?_, ?_⟩
          · have t10 := ti_mulc (c := 4) (y := (4 : Int32)) (x := x1) rfl (by omega)
            have t11 := ti_addc (x := ((4 : Int32) * x1)) (y := (2 : Int32)) (c := 2) rfl (by omega)
            exact vpi (by omega) (by omega)
          · have r12 := w.p40 (x := x1) ⟨by omega, by omega⟩
            have r13 := w.p41 (x := x1) ⟨by omega, by omega⟩
            refine (s_X12_goQuiet w (by show (0 : Int) ≤ ((m.1 194 (((4 : Int32) * x1).toNatClampNeg))).toInt; omega) (by show ((m.1 194 (((4 : Int32) * x1).toNatClampNeg))).toInt ≤ (7 : Int); omega) (by show (0 : Int) ≤ ((m.1 194 ((((4 : Int32) * x1) + (1 : Int32)).toNatClampNeg))).toInt; omega) (by show ((m.1 194 ((((4 : Int32) * x1) + (1 : Int32)).toNatClampNeg))).toInt ≤ (7 : Int); omega)).to ?_
            rintro _ m1 ⟨w_m1, g14, rfl⟩
            have f_m1 : Fx (RS [22, 24, 28]) m0 m1 := f.tr g14 (RS_sub rfl)
            have e15 : (m1.1 187 1).toInt = ((m.1 187 1)).toInt := congrArg _ (g14.at (a := 187) (k := 1) (by decide))
            have e16 : (m1.1 187 0).toInt = ((m.1 187 0)).toInt := congrArg _ (g14.at (a := 187) (k := 0) (by decide))
            refine ⟨rfl, ?_⟩
            have t17 := ti_addc (x := x1) (y := (1 : Int32)) (c := 1) rfl (by omega)
            exact ih _ _ w_m1 f_m1 (by show (0 : Int) ≤ ((x1 + (1 : Int32))).toInt; omega) (by show ((x1 + (1 : Int32))).toInt ≤ (40 : Int); omega) (by show 40 - ((x1 + (1 : Int32))).toInt < _; omega)
set_option maxHeartbeats 4000000 in
theorem s_X12_goTurn {ad : Nat → Nat} {d : Nat} {m : Wm} (w : WT m) : Ct ad μX12_goTurn (d + 171) [.ref (ad 187)] m (fun r m' => WT m' ∧ Fx (RS [22, 24, 28]) m m' ∧ r = none) := by
  have f : Fx (RS [22, 24, 28]) m m := Fx.rf
  refine v_X12_goTurn  ?_
  exact (l_X12_goTurn (m0 := m) 1000000) _ _ w f (by show (0 : Int) ≤ (0 : Int); omega) (by show (0 : Int) ≤ (40 : Int); omega) (by show 40 - (0 : Int) < _; omega)
set_option maxHeartbeats 4000000 in
theorem l_X12_skillIn {ad : Nat → Nat} {d : Nat} {m0 : Wm}  : ∀ n : Nat, (∀ (m : Wm) (x4 : Int32) (z0 : Int64), WT m → Fx (RS []) m0 m → 0 * x4.toInt < (n : Int) → AW ad E0 μX12_skillIn d (fun r m' => WT m' ∧ Fx (RS []) m0 m' ∧ ∃ v : Int32, r = some (.int v)) 29 [(4, .int x4)] [.long z0] m) := by
  intro n
  induction n with
  | zero =>
    intros
    exfalso
    omega
  | succ n ih =>
    intro m x4 z0 w f  hn
    refine g_X12_skillIn_29  ?_
    exact ⟨w, f, _, rfl⟩
set_option maxHeartbeats 4000000 in
theorem s_X12_skillIn {ad : Nat → Nat} {d : Nat} {m : Wm} {x1 x2 x3 : Int32} (w : WT m) (i1 : (0 : Int) ≤ x1.toInt) (i2 : x1.toInt ≤ (2999 : Int)) (i3 : (0 : Int) ≤ x2.toInt) (i4 : x2.toInt ≤ (7 : Int)) (i5 : (0 : Int) ≤ x3.toInt) (i6 : x3.toInt ≤ (3 : Int)) : Ct ad μX12_skillIn d [.ref (ad 187), .int x1, .int x2, .int x3] m (fun r m' => WT m' ∧ Fx (RS []) m m' ∧ ∃ v : Int32, r = some (.int v)) := by
  have f : Fx (RS []) m m := Fx.rf
  refine v_X12_skillIn  ?_
  refine ⟨?_, ?_⟩
  · intro c1
    have t2 := ti_mulc (c := 4) (y := (4 : Int32)) (x := x2) rfl (by omega)
    have t3 := ti_add (x := ((4 : Int32) * x2)) (y := x3) (by omega)
    have k4 := y_lel (n := 16) rfl c1
    refine ⟨?_, ?_⟩
    · exact vpi (by omega) (by omega)
    · exact (l_X12_skillIn (m0 := m) 1000000) _ _ _ w f (by show 0 * ((((4 : Int32) * x2) + x3)).toInt < _; omega)
  · intro c5
    have t6 := ti_mulc (c := 4) (y := (4 : Int32)) (x := x2) rfl (by omega)
    have t7 := ti_add (x := ((4 : Int32) * x2)) (y := x3) (by omega)
    have k8 := y_nlel (n := 16) rfl c5
    refine ⟨?_, ?_⟩
    · exact vpi (by omega) (by omega)
    · exact (l_X12_skillIn (m0 := m) 1000000) _ _ _ w f (by show 0 * ((((4 : Int32) * x2) + x3)).toInt < _; omega)
set_option maxHeartbeats 4000000 in
theorem l_X12_next {ad : Nat → Nat} {d : Nat} {m0 : Wm}  : ∀ n : Nat, (∀ (m : Wm) (x1 x2 x3 x4 : Int32), WT m → Fx (RS [20, 22, 24, 26, 28, 34, 49]) m0 m → (0 : Int) ≤ x1.toInt → x1.toInt ≤ (7 : Int) → (0 : Int) ≤ x4.toInt → x4.toInt ≤ (3 : Int) → (3 - x4.toInt) * 1000 + 900 < (n : Int) → AW ad E0 μX12_next (d + 171) (fun r m' => WT m' ∧ Fx (RS [20, 22, 24, 26, 28, 34, 49]) m0 m' ∧ ∃ v : Int32, r = some (.int v)) 42 [(0, .ref (ad 187)), (1, .int x1), (2, .int x2), (3, .int x3), (4, .int x4)] [] m) ∧ (∀ (m : Wm) (x1 x2 x3 x4 x5 : Int32), WT m → Fx (RS [20, 22, 24, 26, 28, 34, 49]) m0 m → (0 : Int) ≤ x1.toInt → x1.toInt ≤ (7 : Int) → (0 : Int) ≤ x4.toInt → x4.toInt ≤ (2 : Int) → (0 : Int) ≤ x5.toInt → x5.toInt ≤ (8 : Int) → (3 - x4.toInt) * 1000 + (8 - x5.toInt) * 40 + 35 < (n : Int) → AW ad E0 μX12_next (d + 171) (fun r m' => WT m' ∧ Fx (RS [20, 22, 24, 26, 28, 34, 49]) m0 m' ∧ ∃ v : Int32, r = some (.int v)) 51 [(0, .ref (ad 187)), (1, .int x1), (2, .int x2), (3, .int x3), (4, .int x4), (5, .int x5)] [] m) ∧ (∀ (m : Wm) (x1 x2 x3 x4 x5 x6 : Int32), WT m → Fx (RS [20, 22, 24, 26, 28, 34, 49]) m0 m → (0 : Int) ≤ x1.toInt → x1.toInt ≤ (7 : Int) → (0 : Int) ≤ x4.toInt → x4.toInt ≤ (2 : Int) → (0 : Int) ≤ x5.toInt → x5.toInt ≤ (7 : Int) → (0 : Int) ≤ x6.toInt → x6.toInt ≤ (8 : Int) → (3 - x4.toInt) * 1000 + (8 - x5.toInt) * 40 + (8 - x6.toInt) * 2 + 1 < (n : Int) → AW ad E0 μX12_next (d + 171) (fun r m' => WT m' ∧ Fx (RS [20, 22, 24, 26, 28, 34, 49]) m0 m' ∧ ∃ v : Int32, r = some (.int v)) 66 [(0, .ref (ad 187)), (1, .int x1), (2, .int x2), (3, .int x3), (4, .int x4), (5, .int x5), (6, .int x6)] [] m) ∧ (∀ (m : Wm) (x1 x4 x5 x6 x7 : Int32), WT m → Fx (RS [20, 22, 24, 26, 28, 34, 49]) m0 m → (0 : Int) ≤ x1.toInt → x1.toInt ≤ (7 : Int) → (0 : Int) ≤ x4.toInt → x4.toInt ≤ (2 : Int) → (0 : Int) ≤ x5.toInt → x5.toInt ≤ (7 : Int) → (0 : Int) ≤ x6.toInt → x6.toInt ≤ (7 : Int) → (3 - x4.toInt) * 1000 + (8 - x5.toInt) * 40 + (8 - x6.toInt) * 2 < (n : Int) → AW ad E0 μX12_next (d + 171) (fun r m' => WT m' ∧ Fx (RS [20, 22, 24, 26, 28, 34, 49]) m0 m' ∧ ∃ v : Int32, r = some (.int v)) 115 [(0, .ref (ad 187)), (1, .int x1), (4, .int x4), (5, .int x5), (6, .int x6), (7, .int x7)] [] m) := by
  intro n
  induction n with
  | zero =>
    refine ⟨?_, ?_, ?_, ?_⟩ <;> intros <;> exfalso <;> omega
  | succ n ih =>
    refine ⟨?_, ?_, ?_, ?_⟩
    · intro m x1 x2 x3 x4 w f j1 j2 j3 j4 hn
      refine g_X12_next_42  ?_
      refine ⟨?_, ?_⟩
      · intro c1
        have k2 := y_lel (n := 3) rfl c1
        have w3 : WT (uI m 187 16 (0 : Int32)) := w.t rfl (by show (0 : Int) ≤ (0 : Int); omega) (by show (0 : Int) ≤ 16; omega)
        have f3 : Fx (RS [20, 22, 24, 26, 28, 34, 49]) m0 (uI m 187 16 (0 : Int32)) := f.i rfl
        refine (s_X12_tell w3 (by show (0 : Int) ≤ 15; omega)).to ?_
        rintro _ m1 ⟨w_m1, g4, rfl, p5⟩
        have f_m1 : Fx (RS [20, 22, 24, 26, 28, 34, 49]) m0 m1 := f3.tr g4 (RS_sub rfl)
        have p6 : (m1.1 187 16).toInt = (0 : Int) + 1 := p5
        clear p5
        have e7 : (m1.1 187 1).toInt = ((m.1 187 1)).toInt := congrArg _ (g4.at (a := 187) (k := 1) (by decide))
        have e8 : (m1.1 187 0).toInt = ((m.1 187 0)).toInt := congrArg _ (g4.at (a := 187) (k := 0) (by decide))
        refine ⟨rfl, ?_⟩
        exact ⟨w_m1, f_m1, _, rfl⟩
      · intro c9
        have k10 := y_nlel (n := 3) rfl c9
        exact ih.2.1 _ _ _ _ _ _ w f (by show (0 : Int) ≤ (x1).toInt; omega) (by show (x1).toInt ≤ (7 : Int); omega) (by show (0 : Int) ≤ (x4).toInt; omega) (by show (x4).toInt ≤ (2 : Int); omega) (by show (0 : Int) ≤ (0 : Int); omega) (by show (0 : Int) ≤ (8 : Int); omega) (by show (3 - (x4).toInt) * 1000 + (8 - (0 : Int)) * 40 + 35 < _; omega)
    · intro m x1 x2 x3 x4 x5 w f j1 j2 j3 j4 j5 j6 hn
      refine g_X12_next_51  ?_
      refine ⟨?_, ?_⟩
      · intro c1
        have r2 := w.at (a := 187) (k := 1) rfl
        have k3 := z_le c1
        have t4 := ti_addc (x := x4) (y := (1 : Int32)) (c := 1) rfl (by omega)
        exact ih.1 _ _ _ _ _ w f (by show (0 : Int) ≤ (x1).toInt; omega) (by show (x1).toInt ≤ (7 : Int); omega) (by show (0 : Int) ≤ ((x4 + (1 : Int32))).toInt; omega) (by show ((x4 + (1 : Int32))).toInt ≤ (3 : Int); omega) (by show (3 - ((x4 + (1 : Int32))).toInt) * 1000 + 900 < _; omega)
      · intro c5
        have r6 := w.at (a := 187) (k := 1) rfl
        have k7 := z_nle c5
        have t8 := ti_addc (x := x5) (y := (1 : Int32)) (c := 1) rfl (by omega)
        exact ih.2.2.1 _ _ _ _ _ _ _ w f (by show (0 : Int) ≤ (x1).toInt; omega) (by show (x1).toInt ≤ (7 : Int); omega) (by show (0 : Int) ≤ (x4).toInt; omega) (by show (x4).toInt ≤ (2 : Int); omega) (by show (0 : Int) ≤ (x5).toInt; omega) (by show (x5).toInt ≤ (7 : Int); omega) (by show (0 : Int) ≤ ((x5 + (1 : Int32))).toInt; omega) (by show ((x5 + (1 : Int32))).toInt ≤ (8 : Int); omega) (by show (3 - (x4).toInt) * 1000 + (8 - (x5).toInt) * 40 + (8 - ((x5 + (1 : Int32))).toInt) * 2 + 1 < _; omega)
    · intro m x1 x2 x3 x4 x5 x6 w f j1 j2 j3 j4 j5 j6 j7 j8 hn
      refine g_X12_next_66  ?_
      refine ⟨?_, ?_⟩
      · intro c1
        have r2 := w.at (a := 187) (k := 1) rfl
        have k3 := z_le c1
        have t4 := ti_addc (x := x5) (y := (1 : Int32)) (c := 1) rfl (by omega)
        exact ih.2.1 _ _ _ _ _ _ w f (by show (0 : Int) ≤ (x1).toInt; omega) (by show (x1).toInt ≤ (7 : Int); omega) (by show (0 : Int) ≤ (x4).toInt; omega) (by show (x4).toInt ≤ (2 : Int); omega) (by show (0 : Int) ≤ ((x5 + (1 : Int32))).toInt; omega) (by show ((x5 + (1 : Int32))).toInt ≤ (8 : Int); omega) (by show (3 - (x4).toInt) * 1000 + (8 - ((x5 + (1 : Int32))).toInt) * 40 + 35 < _; omega)
      · intro c5
        have r6 := w.at (a := 187) (k := 1) rfl
        have k7 := z_nle c5
        refine (s_X12_goQuiet w (by show (0 : Int) ≤ (x5).toInt; omega) (by show (x5).toInt ≤ (7 : Int); omega) (by show (0 : Int) ≤ (x6).toInt; omega) (by show (x6).toInt ≤ (7 : Int); omega)).to ?_
        rintro _ m1 ⟨w_m1, g8, rfl⟩
        have f_m1 : Fx (RS [20, 22, 24, 26, 28, 34, 49]) m0 m1 := f.tr g8 (RS_sub rfl)
        have e9 : (m1.1 187 16).toInt = ((m.1 187 16)).toInt := congrArg _ (g8.at (a := 187) (k := 16) (by decide))
        have e10 : (m1.1 187 1).toInt = ((m.1 187 1)).toInt := congrArg _ (g8.at (a := 187) (k := 1) (by decide))
        have e11 : (m1.1 187 0).toInt = ((m.1 187 0)).toInt := congrArg _ (g8.at (a := 187) (k := 0) (by decide))
        refine ⟨rfl, ?_⟩
        refine (s_X12_power w_m1 (by show (0 : Int) ≤ (x1).toInt; omega) (by show (x1).toInt ≤ (7 : Int); omega)).to ?_
        rintro _ m2 ⟨w_m2, g12, v3, rfl⟩
        have f_m2 : Fx (RS [20, 22, 24, 26, 28, 34, 49]) m0 m2 := f_m1.tr g12 (RS_sub rfl)
        have e13 : (m2.1 187 16).toInt = ((m1.1 187 16)).toInt := congrArg _ (g12.at (a := 187) (k := 16) (by decide))
        have e14 : (m2.1 187 1).toInt = ((m1.1 187 1)).toInt := congrArg _ (g12.at (a := 187) (k := 1) (by decide))
        have e15 : (m2.1 187 0).toInt = ((m1.1 187 0)).toInt := congrArg _ (g12.at (a := 187) (k := 0) (by decide))
        refine ⟨v3, rfl, ?_⟩
        refine (s_X12_bring_204 w_m2 (by show (0 : Int) ≤ (0 : Int); omega) (by show (0 : Int) ≤ (0 : Int); omega)).to ?_
        rintro _ m4 ⟨w_m4, g16, rfl⟩
        have f_m4 : Fx (RS [20, 22, 24, 26, 28, 34, 49]) m0 m4 := f_m2.tr g16 (RS_sub rfl)
        have e17 : (m4.1 187 16).toInt = ((m2.1 187 16)).toInt := congrArg _ (g16.at (a := 187) (k := 16) (by decide))
        have e18 : (m4.1 187 1).toInt = ((m2.1 187 1)).toInt := congrArg _ (g16.at (a := 187) (k := 1) (by decide))
        have e19 : (m4.1 187 0).toInt = ((m2.1 187 0)).toInt := congrArg _ (g16.at (a := 187) (k := 0) (by decide))
        refine ⟨rfl, ?_⟩
        refine ⟨?_, ?_⟩
        · intro c20
          have k21 := y_eqr (n := -1) rfl c20
          exact ih.2.2.2 _ _ _ _ _ _ w_m4 f_m4 (by show (0 : Int) ≤ (x1).toInt; omega) (by show (x1).toInt ≤ (7 : Int); omega) (by show (0 : Int) ≤ (x4).toInt; omega) (by show (x4).toInt ≤ (2 : Int); omega) (by show (0 : Int) ≤ (x5).toInt; omega) (by show (x5).toInt ≤ (7 : Int); omega) (by show (0 : Int) ≤ (x6).toInt; omega) (by show (x6).toInt ≤ (7 : Int); omega) (by show (3 - (x4).toInt) * 1000 + (8 - (x5).toInt) * 40 + (8 - (x6).toInt) * 2 < _; omega)
        · intro c22
          have k23 := y_ner (n := -1) rfl c22
          refine ⟨?_, ?_⟩
          · intro c24
            have k25 := z_lt c24
            exact ih.2.2.2 _ _ _ _ _ _ w_m4 f_m4 (by show (0 : Int) ≤ (x1).toInt; omega) (by show (x1).toInt ≤ (7 : Int); omega) (by show (0 : Int) ≤ (x4).toInt; omega) (by show (x4).toInt ≤ (2 : Int); omega) (by show (0 : Int) ≤ (x5).toInt; omega) (by show (x5).toInt ≤ (7 : Int); omega) (by show (0 : Int) ≤ (x6).toInt; omega) (by show (x6).toInt ≤ (7 : Int); omega) (by show (3 - (x4).toInt) * 1000 + (8 - (x5).toInt) * 40 + (8 - (x6).toInt) * 2 < _; omega)
          · intro c26
            have k27 := z_nlt c26
            have t28 := ti_addc (x := x6) (y := (1 : Int32)) (c := 1) rfl (by omega)
            exact ih.2.2.1 _ _ _ _ _ _ _ w_m4 f_m4 (by show (0 : Int) ≤ (x1).toInt; omega) (by show (x1).toInt ≤ (7 : Int); omega) (by show (0 : Int) ≤ (x4).toInt; omega) (by show (x4).toInt ≤ (2 : Int); omega) (by show (0 : Int) ≤ (x5).toInt; omega) (by show (x5).toInt ≤ (7 : Int); omega) (by show (0 : Int) ≤ ((x6 + (1 : Int32))).toInt; omega) (by show ((x6 + (1 : Int32))).toInt ≤ (8 : Int); omega) (by show (3 - (x4).toInt) * 1000 + (8 - (x5).toInt) * 40 + (8 - ((x6 + (1 : Int32))).toInt) * 2 + 1 < _; omega)
    · intro m x1 x4 x5 x6 x7 w f j1 j2 j3 j4 j5 j6 j7 j8 hn
      refine g_X12_next_115  ?_
      have t1 := ti_addc (x := x6) (y := (1 : Int32)) (c := 1) rfl (by omega)
      exact ih.2.2.1 _ _ _ _ _ _ _ w f (by show (0 : Int) ≤ (x1).toInt; omega) (by show (x1).toInt ≤ (7 : Int); omega) (by show (0 : Int) ≤ (x4).toInt; omega) (by show (x4).toInt ≤ (2 : Int); omega) (by show (0 : Int) ≤ (x5).toInt; omega) (by show (x5).toInt ≤ (7 : Int); omega) (by show (0 : Int) ≤ ((x6 + (1 : Int32))).toInt; omega) (by show ((x6 + (1 : Int32))).toInt ≤ (8 : Int); omega) (by show (3 - (x4).toInt) * 1000 + (8 - (x5).toInt) * 40 + (8 - ((x6 + (1 : Int32))).toInt) * 2 + 1 < _; omega)
set_option maxHeartbeats 4000000 in
theorem s_X12_next {ad : Nat → Nat} {d : Nat} {m : Wm} {x1 : Int32} (w : WT m) : Ct ad μX12_next (d + 171) [.ref (ad 187), .int x1] m (fun r m' => WT m' ∧ Fx (RS [20, 22, 24, 26, 28, 34, 49]) m m' ∧ ∃ v : Int32, r = some (.int v)) := by
  have f : Fx (RS [20, 22, 24, 26, 28, 34, 49]) m m := Fx.rf
  refine v_X12_next  ?_
  have w1 : WT (uI m 187 17 (0 : Int32)) := w.n rfl
  have f1 : Fx (RS [20, 22, 24, 26, 28, 34, 49]) m (uI m 187 17 (0 : Int32)) := f.i rfl
  refine (s_X12_isSide w1).to ?_
  rintro _ m1 ⟨w_m1, g2, v2, rfl, p4, p5, p3⟩
  have f_m1 : Fx (RS [20, 22, 24, 26, 28, 34, 49]) m m1 := f1.tr g2 (RS_sub rfl)
  have p6 : (v2.toInt = 0 ∧ ((x1).toInt < 0 ∨ ((m.1 187 1)).toInt ≤ (x1).toInt)) ∨ (v2.toInt = 1 ∧ 0 ≤ (x1).toInt ∧ (x1).toInt < ((m.1 187 1)).toInt) := p3
  clear p3
  have e7 : (m1.1 187 16).toInt = ((m.1 187 16)).toInt := congrArg _ (g2.at (a := 187) (k := 16) (by decide))
  have e8 : (m1.1 187 1).toInt = ((m.1 187 1)).toInt := congrArg _ (g2.at (a := 187) (k := 1) (by decide))
  have e9 : (m1.1 187 0).toInt = ((m.1 187 0)).toInt := congrArg _ (g2.at (a := 187) (k := 0) (by decide))
  refine ⟨v2, rfl, ?_⟩
  refine ⟨?_, ?_⟩
  · intro c10
    have k11 := y_ner (n := 0) rfl c10
    have r12 := w.at (a := 187) (k := 1) rfl
    refine ⟨?_, ?_⟩
    · intro c13
      have r14 := w_m1.at (a := 187) (k := 1) rfl
      have k15 := y_lel (n := 2) rfl c13
      refine (s_X12_lay_204 w_m1 (by show (0 : Int) ≤ (0 : Int); omega) (by show (0 : Int) ≤ (0 : Int); omega)).to ?_
      rintro _ m3 ⟨w_m3, g16, rfl⟩
      have f_m3 : Fx (RS [20, 22, 24, 26, 28, 34, 49]) m m3 := f_m1.tr g16 (RS_sub rfl)
      have e17 : (m3.1 187 16).toInt = ((m1.1 187 16)).toInt := congrArg _ (g16.at (a := 187) (k := 16) (by decide))
      have e18 : (m3.1 187 1).toInt = ((m1.1 187 1)).toInt := congrArg _ (g16.at (a := 187) (k := 1) (by decide))
      have e19 : (m3.1 187 0).toInt = ((m1.1 187 0)).toInt := congrArg _ (g16.at (a := 187) (k := 0) (by decide))
      refine ⟨rfl, ?_⟩
      exact (l_X12_next (m0 := m) 1000000).1 _ _ _ _ _ w_m3 f_m3 (by show (0 : Int) ≤ (x1).toInt; omega) (by show (x1).toInt ≤ (7 : Int); omega) (by show (0 : Int) ≤ (0 : Int); omega) (by show (0 : Int) ≤ (3 : Int); omega) (by show (3 - (0 : Int)) * 1000 + 900 < _; omega)
    · intro c20
      have r21 := w_m1.at (a := 187) (k := 1) rfl
      have k22 := y_nlel (n := 2) rfl c20
      exact ⟨w_m1, f_m1, _, rfl⟩
  · intro c23
    have k24 := y_eqr (n := 0) rfl c23
    exact ⟨w_m1, f_m1, _, rfl⟩
set_option maxHeartbeats 4000000 in
theorem s_X12_seen {ad : Nat → Nat} {d : Nat} {m : Wm} {x1 x2 x3 : Int32} (w : WT m) : Ct ad μX12_seen (d + 3) [.ref (ad 187), .int x1, .int x2, .int x3] m (fun r m' => WT m' ∧ Fx (RS [20, 39]) m m' ∧ ∃ v : Int32, r = some (.int v) ∧ ((v.toInt = -1 ∧ (m'.1 187 52).toInt = (m.1 187 52).toInt ∧ (((x1.toInt < 0 ∨ (m.1 187 1).toInt ≤ x1.toInt ∨ x2.toInt < 0 ∨ (m.1 187 1).toInt ≤ x2.toInt ∨ x1.toInt = x2.toInt)) ∨ x3.toInt < 0 ∨ 2 < x3.toInt ∨ 12 ≤ (m.1 187 52).toInt)) ∨ (v.toInt = (m.1 187 52).toInt + 1 ∧ (m'.1 187 52).toInt = (m.1 187 52).toInt + 1 ∧ 0 ≤ x1.toInt ∧ x1.toInt < (m.1 187 1).toInt ∧ 0 ≤ x2.toInt ∧ x2.toInt < (m.1 187 1).toInt ∧ x1.toInt ≠ x2.toInt ∧ 0 ≤ x3.toInt ∧ x3.toInt ≤ 2 ∧ (m.1 187 52).toInt < 12))) := by
  have f : Fx (RS [20, 39]) m m := Fx.rf
  refine v_X12_seen  ?_
  have w1 : WT (uI m 187 17 (0 : Int32)) := w.n rfl
  have f1 : Fx (RS [20, 39]) m (uI m 187 17 (0 : Int32)) := f.i rfl
  refine (s_X12_areTwo w1).to ?_
  rintro _ m1 ⟨w_m1, g2, v2, rfl, p4, p5, p3⟩
  have f_m1 : Fx (RS [20, 39]) m m1 := f1.tr g2 (RS_sub rfl)
  have p6 : (v2.toInt = 0 ∧ ((x1).toInt < 0 ∨ ((m.1 187 1)).toInt ≤ (x1).toInt ∨ (x2).toInt < 0 ∨ ((m.1 187 1)).toInt ≤ (x2).toInt ∨ (x1).toInt = (x2).toInt)) ∨ (v2.toInt = 1 ∧ 0 ≤ (x1).toInt ∧ (x1).toInt < ((m.1 187 1)).toInt ∧ 0 ≤ (x2).toInt ∧ (x2).toInt < ((m.1 187 1)).toInt ∧ (x1).toInt ≠ (x2).toInt) := p3
  clear p3
  have e7 : (m1.1 187 52).toInt = ((m.1 187 52)).toInt := congrArg _ (g2.at (a := 187) (k := 52) (by decide))
  have e8 : (m1.1 187 1).toInt = ((m.1 187 1)).toInt := congrArg _ (g2.at (a := 187) (k := 1) (by decide))
  have e9 : (m1.1 187 0).toInt = ((m.1 187 0)).toInt := congrArg _ (g2.at (a := 187) (k := 0) (by decide))
  refine ⟨v2, rfl, ?_⟩
  refine ⟨?_, ?_⟩
  · intro c10
    have k11 := y_eqr (n := 0) rfl c10
    have r12 := w_m1.at (a := 187) (k := 52) rfl
    exact ⟨w_m1, f_m1, _, rfl, (by show ((-1 : Int) = -1 ∧ ((m1.1 187 52)).toInt = (m.1 187 52).toInt ∧ (((x1.toInt < 0 ∨ (m.1 187 1).toInt ≤ x1.toInt ∨ x2.toInt < 0 ∨ (m.1 187 1).toInt ≤ x2.toInt ∨ x1.toInt = x2.toInt)) ∨ x3.toInt < 0 ∨ 2 < x3.toInt ∨ 12 ≤ (m.1 187 52).toInt)) ∨ ((-1 : Int) = (m.1 187 52).toInt + 1 ∧ ((m1.1 187 52)).toInt = (m.1 187 52).toInt + 1 ∧ 0 ≤ x1.toInt ∧ x1.toInt < (m.1 187 1).toInt ∧ 0 ≤ x2.toInt ∧ x2.toInt < (m.1 187 1).toInt ∧ x1.toInt ≠ x2.toInt ∧ 0 ≤ x3.toInt ∧ x3.toInt ≤ 2 ∧ (m.1 187 52).toInt < 12); omega)⟩
  · intro c13
    have k14 := y_ner (n := 0) rfl c13
    have r15 := w.at (a := 187) (k := 1) rfl
    refine (s_X12_in (x := x3) (lo := (0 : Int32)) (hi := (2 : Int32)) w_m1 rfl rfl).to ?_
    rintro _ m3 ⟨w_m3, g16, v4, rfl, p18, p19, p17⟩
    have f_m3 : Fx (RS [20, 39]) m m3 := f_m1.tr g16 (RS_sub rfl)
    have p20 : (v4.toInt = 0 ∧ ((x3).toInt < (0 : Int) ∨ (2 : Int) < (x3).toInt)) ∨ (v4.toInt = 1 ∧ (0 : Int) ≤ (x3).toInt ∧ (x3).toInt ≤ (2 : Int)) := p17
    clear p17
    have e21 : (m3.1 187 52).toInt = ((m1.1 187 52)).toInt := congrArg _ (g16.at (a := 187) (k := 52) (by decide))
    have e22 : (m3.1 187 1).toInt = ((m1.1 187 1)).toInt := congrArg _ (g16.at (a := 187) (k := 1) (by decide))
    have e23 : (m3.1 187 0).toInt = ((m1.1 187 0)).toInt := congrArg _ (g16.at (a := 187) (k := 0) (by decide))
    refine ⟨v4, rfl, ?_⟩
    refine ⟨?_, ?_⟩
    · intro c24
      have k25 := y_eqr (n := 0) rfl c24
      have r26 := w_m3.at (a := 187) (k := 52) rfl
      exact ⟨w_m3, f_m3, _, rfl, (by show ((-1 : Int) = -1 ∧ ((m3.1 187 52)).toInt = (m.1 187 52).toInt ∧ (((x1.toInt < 0 ∨ (m.1 187 1).toInt ≤ x1.toInt ∨ x2.toInt < 0 ∨ (m.1 187 1).toInt ≤ x2.toInt ∨ x1.toInt = x2.toInt)) ∨ x3.toInt < 0 ∨ 2 < x3.toInt ∨ 12 ≤ (m.1 187 52).toInt)) ∨ ((-1 : Int) = (m.1 187 52).toInt + 1 ∧ ((m3.1 187 52)).toInt = (m.1 187 52).toInt + 1 ∧ 0 ≤ x1.toInt ∧ x1.toInt < (m.1 187 1).toInt ∧ 0 ≤ x2.toInt ∧ x2.toInt < (m.1 187 1).toInt ∧ x1.toInt ≠ x2.toInt ∧ 0 ≤ x3.toInt ∧ x3.toInt ≤ 2 ∧ (m.1 187 52).toInt < 12); omega)⟩
    · intro c27
      have k28 := y_ner (n := 0) rfl c27
      refine ⟨?_, ?_⟩
      · intro c29
        have r30 := w_m3.at (a := 187) (k := 52) rfl
        have k31 := y_ner (n := 12) rfl c29
        refine ⟨?_, ?_⟩
        · have t32 := ti_mulc (c := 3) (y := (3 : Int32)) (x := (m3.1 187 52)) rfl (by omega)
          exact vpi (by omega) (by omega)
        · refine ⟨?_, ?_⟩
          · have t33 := ti_mulc (c := 3) (y := (3 : Int32)) (x := (m3.1 187 52)) rfl (by omega)
            have t34 := ti_addc (x := ((3 : Int32) * (m3.1 187 52))) (y := (1 : Int32)) (c := 1) rfl (by omega)
            show vp_in (((3 : Int32) * (m3.1 187 52)) + (1 : Int32)) 36
            exact vpi (by omega) (by omega)
          · refine ⟨?_, ?_⟩
            · have t35 := ti_mulc (c := 3) (y := (3 : Int32)) (x := (m3.1 187 52)) rfl (by omega)
              have t36 := ti_addc (x := ((3 : Int32) * (m3.1 187 52))) (y := (2 : Int32)) (c := 2) rfl (by omega)
              show vp_in (((3 : Int32) * (m3.1 187 52)) + (2 : Int32)) 36
              exact vpi (by omega) (by omega)
            · have w37 : WT (uI m3 213 (((3 : Int32) * (m3.1 187 52)).toNatClampNeg) x1) := w_m3.us0 (x := (m3.1 187 52)) (v := x1) ⟨by omega, by omega⟩ ⟨by omega, by omega⟩
              have f37 : Fx (RS [20, 39]) m (uI m3 213 (((3 : Int32) * (m3.1 187 52)).toNatClampNeg) x1) := f_m3.i rfl
              have w38 : WT (uI (uI m3 213 (((3 : Int32) * (m3.1 187 52)).toNatClampNeg) x1) 213 ((((3 : Int32) * ((uI m3 213 (((3 : Int32) * (m3.1 187 52)).toNatClampNeg) x1).1 187 52)) + (1 : Int32)).toNatClampNeg) x2) := w37.us1 (x := (m3.1 187 52)) (v := x2) ⟨by omega, by omega⟩ ⟨by omega, by omega⟩
              have f38 : Fx (RS [20, 39]) m (uI (uI m3 213 (((3 : Int32) * (m3.1 187 52)).toNatClampNeg) x1) 213 ((((3 : Int32) * ((uI m3 213 (((3 : Int32) * (m3.1 187 52)).toNatClampNeg) x1).1 187 52)) + (1 : Int32)).toNatClampNeg) x2) := f37.i rfl
              have w39 : WT (uI (uI (uI m3 213 (((3 : Int32) * (m3.1 187 52)).toNatClampNeg) x1) 213 ((((3 : Int32) * ((uI m3 213 (((3 : Int32) * (m3.1 187 52)).toNatClampNeg) x1).1 187 52)) + (1 : Int32)).toNatClampNeg) x2) 213 ((((3 : Int32) * ((uI (uI m3 213 (((3 : Int32) * (m3.1 187 52)).toNatClampNeg) x1) 213 ((((3 : Int32) * ((uI m3 213 (((3 : Int32) * (m3.1 187 52)).toNatClampNeg) x1).1 187 52)) + (1 : Int32)).toNatClampNeg) x2).1 187 52)) + (2 : Int32)).toNatClampNeg) x3) := w38.us2 (x := (m3.1 187 52)) ⟨by omega, by omega⟩
              have f39 : Fx (RS [20, 39]) m (uI (uI (uI m3 213 (((3 : Int32) * (m3.1 187 52)).toNatClampNeg) x1) 213 ((((3 : Int32) * ((uI m3 213 (((3 : Int32) * (m3.1 187 52)).toNatClampNeg) x1).1 187 52)) + (1 : Int32)).toNatClampNeg) x2) 213 ((((3 : Int32) * ((uI (uI m3 213 (((3 : Int32) * (m3.1 187 52)).toNatClampNeg) x1) 213 ((((3 : Int32) * ((uI m3 213 (((3 : Int32) * (m3.1 187 52)).toNatClampNeg) x1).1 187 52)) + (1 : Int32)).toNatClampNeg) x2).1 187 52)) + (2 : Int32)).toNatClampNeg) x3) := f38.i rfl
              have t41 := ti_addc (x := (m3.1 187 52)) (y := (1 : Int32)) (c := 1) rfl (by omega)
              have w40 : WT (uI (uI (uI (uI m3 213 (((3 : Int32) * (m3.1 187 52)).toNatClampNeg) x1) 213 ((((3 : Int32) * ((uI m3 213 (((3 : Int32) * (m3.1 187 52)).toNatClampNeg) x1).1 187 52)) + (1 : Int32)).toNatClampNeg) x2) 213 ((((3 : Int32) * ((uI (uI m3 213 (((3 : Int32) * (m3.1 187 52)).toNatClampNeg) x1) 213 ((((3 : Int32) * ((uI m3 213 (((3 : Int32) * (m3.1 187 52)).toNatClampNeg) x1).1 187 52)) + (1 : Int32)).toNatClampNeg) x2).1 187 52)) + (2 : Int32)).toNatClampNeg) x3) 187 52 (((uI (uI (uI m3 213 (((3 : Int32) * (m3.1 187 52)).toNatClampNeg) x1) 213 ((((3 : Int32) * ((uI m3 213 (((3 : Int32) * (m3.1 187 52)).toNatClampNeg) x1).1 187 52)) + (1 : Int32)).toNatClampNeg) x2) 213 ((((3 : Int32) * ((uI (uI m3 213 (((3 : Int32) * (m3.1 187 52)).toNatClampNeg) x1) 213 ((((3 : Int32) * ((uI m3 213 (((3 : Int32) * (m3.1 187 52)).toNatClampNeg) x1).1 187 52)) + (1 : Int32)).toNatClampNeg) x2).1 187 52)) + (2 : Int32)).toNatClampNeg) x3).1 187 52) + (1 : Int32))) := w39.t rfl (by show (0 : Int) ≤ (((m3.1 187 52) + (1 : Int32))).toInt; omega) (by show (((m3.1 187 52) + (1 : Int32))).toInt ≤ 12; omega)
              have f40 : Fx (RS [20, 39]) m (uI (uI (uI (uI m3 213 (((3 : Int32) * (m3.1 187 52)).toNatClampNeg) x1) 213 ((((3 : Int32) * ((uI m3 213 (((3 : Int32) * (m3.1 187 52)).toNatClampNeg) x1).1 187 52)) + (1 : Int32)).toNatClampNeg) x2) 213 ((((3 : Int32) * ((uI (uI m3 213 (((3 : Int32) * (m3.1 187 52)).toNatClampNeg) x1) 213 ((((3 : Int32) * ((uI m3 213 (((3 : Int32) * (m3.1 187 52)).toNatClampNeg) x1).1 187 52)) + (1 : Int32)).toNatClampNeg) x2).1 187 52)) + (2 : Int32)).toNatClampNeg) x3) 187 52 (((uI (uI (uI m3 213 (((3 : Int32) * (m3.1 187 52)).toNatClampNeg) x1) 213 ((((3 : Int32) * ((uI m3 213 (((3 : Int32) * (m3.1 187 52)).toNatClampNeg) x1).1 187 52)) + (1 : Int32)).toNatClampNeg) x2) 213 ((((3 : Int32) * ((uI (uI m3 213 (((3 : Int32) * (m3.1 187 52)).toNatClampNeg) x1) 213 ((((3 : Int32) * ((uI m3 213 (((3 : Int32) * (m3.1 187 52)).toNatClampNeg) x1).1 187 52)) + (1 : Int32)).toNatClampNeg) x2).1 187 52)) + (2 : Int32)).toNatClampNeg) x3).1 187 52) + (1 : Int32))) := f39.i rfl
              exact ⟨w40, f40, _, rfl, (by show ((((m3.1 187 52) + (1 : Int32))).toInt = -1 ∧ (((m3.1 187 52) + (1 : Int32))).toInt = (m.1 187 52).toInt ∧ (((x1.toInt < 0 ∨ (m.1 187 1).toInt ≤ x1.toInt ∨ x2.toInt < 0 ∨ (m.1 187 1).toInt ≤ x2.toInt ∨ x1.toInt = x2.toInt)) ∨ x3.toInt < 0 ∨ 2 < x3.toInt ∨ 12 ≤ (m.1 187 52).toInt)) ∨ ((((m3.1 187 52) + (1 : Int32))).toInt = (m.1 187 52).toInt + 1 ∧ (((m3.1 187 52) + (1 : Int32))).toInt = (m.1 187 52).toInt + 1 ∧ 0 ≤ x1.toInt ∧ x1.toInt < (m.1 187 1).toInt ∧ 0 ≤ x2.toInt ∧ x2.toInt < (m.1 187 1).toInt ∧ x1.toInt ≠ x2.toInt ∧ 0 ≤ x3.toInt ∧ x3.toInt ≤ 2 ∧ (m.1 187 52).toInt < 12); omega)⟩
      · intro c42
        have r43 := w_m3.at (a := 187) (k := 52) rfl
        have k44 := y_eqr (n := 12) rfl c42
        exact ⟨w_m3, f_m3, _, rfl, (by show ((-1 : Int) = -1 ∧ ((m3.1 187 52)).toInt = (m.1 187 52).toInt ∧ (((x1.toInt < 0 ∨ (m.1 187 1).toInt ≤ x1.toInt ∨ x2.toInt < 0 ∨ (m.1 187 1).toInt ≤ x2.toInt ∨ x1.toInt = x2.toInt)) ∨ x3.toInt < 0 ∨ 2 < x3.toInt ∨ 12 ≤ (m.1 187 52).toInt)) ∨ ((-1 : Int) = (m.1 187 52).toInt + 1 ∧ ((m3.1 187 52)).toInt = (m.1 187 52).toInt + 1 ∧ 0 ≤ x1.toInt ∧ x1.toInt < (m.1 187 1).toInt ∧ 0 ≤ x2.toInt ∧ x2.toInt < (m.1 187 1).toInt ∧ x1.toInt ≠ x2.toInt ∧ 0 ≤ x3.toInt ∧ x3.toInt ≤ 2 ∧ (m.1 187 52).toInt < 12); omega)⟩
set_option maxHeartbeats 4000000 in
theorem l_X12_found {ad : Nat → Nat} {d : Nat} {m0 : Wm}  : ∀ n : Nat, (∀ (m : Wm) (x1 x2 x3 x4 : Int32), WT m → Fx (RS [20, 22, 26, 28]) m0 m → (0 : Int) ≤ x4.toInt → x4.toInt ≤ (8 : Int) → (8 - x4.toInt) * 100 + 90 < (n : Int) → AW ad E0 μX12_found (d + 170) (fun r m' => WT m' ∧ Fx (RS [20, 22, 26, 28]) m0 m' ∧ ∃ v : Int32, r = some (.int v)) 14 [(0, .ref (ad 187)), (1, .int x1), (2, .int x2), (3, .int x3), (4, .int x4)] [] m) ∧ (∀ (m : Wm) (x1 x2 x3 x4 x5 x6 : Int32), WT m → Fx (RS [20, 22, 26, 28]) m0 m → (0 : Int) ≤ x4.toInt → x4.toInt ≤ (7 : Int) → (0 : Int) ≤ x6.toInt → x6.toInt ≤ (12 : Int) → (8 - x4.toInt) * 100 + (12 - x6.toInt) * 2 + 1 < (n : Int) → AW ad E0 μX12_found (d + 170) (fun r m' => WT m' ∧ Fx (RS [20, 22, 26, 28]) m0 m' ∧ ∃ v : Int32, r = some (.int v)) 29 [(0, .ref (ad 187)), (1, .int x1), (2, .int x2), (3, .int x3), (4, .int x4), (5, .int x5), (6, .int x6)] [] m) ∧ (∀ (m : Wm) (x1 x2 x3 x4 x6 x8 x9 s0 : Int32), WT m → Fx (RS [20, 22, 26, 28]) m0 m → (0 : Int) ≤ x4.toInt → x4.toInt ≤ (7 : Int) → (0 : Int) ≤ x6.toInt → x6.toInt ≤ (11 : Int) → (8 - x4.toInt) * 100 + (12 - x6.toInt) * 2 < (n : Int) → AW ad E0 μX12_found (d + 170) (fun r m' => WT m' ∧ Fx (RS [20, 22, 26, 28]) m0 m' ∧ ∃ v : Int32, r = some (.int v)) 113 [(0, .ref (ad 187)), (1, .int x1), (2, .int x2), (3, .int x3), (4, .int x4), (6, .int x6), (8, .int x8), (9, .int x9)] [.int s0] m) := by
  intro n
  induction n with
  | zero =>
    refine ⟨?_, ?_, ?_⟩ <;> intros <;> exfalso <;> omega
  | succ n ih =>
    refine ⟨?_, ?_, ?_⟩
    · intro m x1 x2 x3 x4 w f j1 j2 hn
      refine g_X12_found_14  ?_
      refine ⟨?_, ?_⟩
      · intro c1
        have r2 := w.at (a := 187) (k := 1) rfl
        have k3 := z_le c1
        have w4 : WT (uI m 187 16 (0 : Int32)) := w.t rfl (by show (0 : Int) ≤ (0 : Int); omega) (by show (0 : Int) ≤ 16; omega)
        have f4 : Fx (RS [20, 22, 26, 28]) m0 (uI m 187 16 (0 : Int32)) := f.i rfl
        refine (s_J6_bitCount w4).to ?_
        rintro _ m1 ⟨w_m1, g5, v2, rfl⟩
        have f_m1 : Fx (RS [20, 22, 26, 28]) m0 m1 := f4.tr g5 (RS_sub rfl)
        have e6 : (m1.1 187 16).toInt = (0 : Int) := congrArg _ (g5.at (a := 187) (k := 16) (by decide))
        have e7 : (m1.1 187 1).toInt = ((m.1 187 1)).toInt := congrArg _ (g5.at (a := 187) (k := 1) (by decide))
        have e8 : (m1.1 187 0).toInt = ((m.1 187 0)).toInt := congrArg _ (g5.at (a := 187) (k := 0) (by decide))
        refine ⟨v2, rfl, ?_⟩
        have r9 := w_m1.at (a := 187) (k := 16) rfl
        refine (s_X12_tell w_m1 (by show ((m1.1 187 16)).toInt ≤ 15; omega)).to ?_
        rintro _ m3 ⟨w_m3, g10, rfl, p11⟩
        have f_m3 : Fx (RS [20, 22, 26, 28]) m0 m3 := f_m1.tr g10 (RS_sub rfl)
        have p12 : (m3.1 187 16).toInt = ((m1.1 187 16)).toInt + 1 := p11
        clear p11
        have e13 : (m3.1 187 1).toInt = ((m1.1 187 1)).toInt := congrArg _ (g10.at (a := 187) (k := 1) (by decide))
        have e14 : (m3.1 187 0).toInt = ((m1.1 187 0)).toInt := congrArg _ (g10.at (a := 187) (k := 0) (by decide))
        refine ⟨rfl, ?_⟩
        have r15 := w_m3.at (a := 187) (k := 16) rfl
        refine (s_X12_tell w_m3 (by show ((m3.1 187 16)).toInt ≤ 15; omega)).to ?_
        rintro _ m4 ⟨w_m4, g16, rfl, p17⟩
        have f_m4 : Fx (RS [20, 22, 26, 28]) m0 m4 := f_m3.tr g16 (RS_sub rfl)
        have p18 : (m4.1 187 16).toInt = ((m3.1 187 16)).toInt + 1 := p17
        clear p17
        have e19 : (m4.1 187 1).toInt = ((m3.1 187 1)).toInt := congrArg _ (g16.at (a := 187) (k := 1) (by decide))
        have e20 : (m4.1 187 0).toInt = ((m3.1 187 0)).toInt := congrArg _ (g16.at (a := 187) (k := 0) (by decide))
        refine ⟨rfl, ?_⟩
        have r21 := w_m4.at (a := 187) (k := 16) rfl
        refine (s_X12_tell w_m4 (by show ((m4.1 187 16)).toInt ≤ 15; omega)).to ?_
        rintro _ m5 ⟨w_m5, g22, rfl, p23⟩
        have f_m5 : Fx (RS [20, 22, 26, 28]) m0 m5 := f_m4.tr g22 (RS_sub rfl)
        have p24 : (m5.1 187 16).toInt = ((m4.1 187 16)).toInt + 1 := p23
        clear p23
        have e25 : (m5.1 187 1).toInt = ((m4.1 187 1)).toInt := congrArg _ (g22.at (a := 187) (k := 1) (by decide))
        have e26 : (m5.1 187 0).toInt = ((m4.1 187 0)).toInt := congrArg _ (g22.at (a := 187) (k := 0) (by decide))
        refine ⟨rfl, ?_⟩
        exact ⟨w_m5, f_m5, _, rfl⟩
      · intro c27
        have r28 := w.at (a := 187) (k := 1) rfl
        have k29 := z_nle c27
        exact ih.2.1 _ _ _ _ _ _ _ w f (by show (0 : Int) ≤ (x4).toInt; omega) (by show (x4).toInt ≤ (7 : Int); omega) (by show (0 : Int) ≤ (0 : Int); omega) (by show (0 : Int) ≤ (12 : Int); omega) (by show (8 - (x4).toInt) * 100 + (12 - (0 : Int)) * 2 + 1 < _; omega)
    · intro m x1 x2 x3 x4 x5 x6 w f j1 j2 j3 j4 hn
      refine g_X12_found_29  ?_
      refine ⟨?_, ?_⟩
      · intro c1
        have r2 := w.at (a := 187) (k := 52) rfl
        have k3 := z_le c1
        refine ⟨?_, ?_⟩
        · intro c4
          have k5 := z_lt c4
          have t6 := ti_addc (x := x4) (y := (1 : Int32)) (c := 1) rfl (by omega)
          exact ih.1 _ _ _ _ _ w f (by show (0 : Int) ≤ ((x4 + (1 : Int32))).toInt; omega) (by show ((x4 + (1 : Int32))).toInt ≤ (8 : Int); omega) (by show (8 - ((x4 + (1 : Int32))).toInt) * 100 + 90 < _; omega)
        · intro c7
          have k8 := z_nlt c7
          have t9 := ti_addc (x := x4) (y := (1 : Int32)) (c := 1) rfl (by omega)
          exact ih.1 _ _ _ _ _ w f (by show (0 : Int) ≤ ((x4 + (1 : Int32))).toInt; omega) (by show ((x4 + (1 : Int32))).toInt ≤ (8 : Int); omega) (by show (8 - ((x4 + (1 : Int32))).toInt) * 100 + 90 < _; omega)
      · intro c10
        have r11 := w.at (a := 187) (k := 52) rfl
        have k12 := z_nle c10
        refine ⟨?_, ?_⟩
        · have t13 := ti_mulc (c := 3) (y := (3 : Int32)) (x := x6) rfl (by omega)
          exact vpi (by omega) (by omega)
        · refine ⟨?_, ?_⟩
          · have t14 := ti_mulc (c := 3) (y := (3 : Int32)) (x := x6) rfl (by omega)
            have t15 := ti_addc (x := ((3 : Int32) * x6)) (y := (1 : Int32)) (c := 1) rfl (by omega)
            exact vpi (by omega) (by omega)
          · refine ⟨?_, ?_⟩
            · have t16 := ti_mulc (c := 3) (y := (3 : Int32)) (x := x6) rfl (by omega)
              have t17 := ti_addc (x := ((3 : Int32) * x6)) (y := (2 : Int32)) (c := 2) rfl (by omega)
              exact vpi (by omega) (by omega)
            · have r18 := w.s30 (x := x6) ⟨by omega, by omega⟩
              have r19 := w.s31 (x := x6) ⟨by omega, by omega⟩
              refine (s_X12_winner w (by show (0 : Int) ≤ ((m.1 213 (((3 : Int32) * x6).toNatClampNeg))).toInt; omega) (by show ((m.1 213 (((3 : Int32) * x6).toNatClampNeg))).toInt ≤ (7 : Int); omega) (by show (0 : Int) ≤ ((m.1 213 ((((3 : Int32) * x6) + (1 : Int32)).toNatClampNeg))).toInt; omega) (by show ((m.1 213 ((((3 : Int32) * x6) + (1 : Int32)).toNatClampNeg))).toInt ≤ (7 : Int); omega)).to ?_
              rintro _ m1 ⟨w_m1, g20, v2, rfl, p21, p22⟩
              have f_m1 : Fx (RS [20, 22, 26, 28]) m0 m1 := f.tr g20 (RS_sub rfl)
              have e23 : (m1.1 187 16).toInt = ((m.1 187 16)).toInt := congrArg _ (g20.at (a := 187) (k := 16) (by decide))
              have e24 : (m1.1 187 1).toInt = ((m.1 187 1)).toInt := congrArg _ (g20.at (a := 187) (k := 1) (by decide))
              have e25 : (m1.1 187 0).toInt = ((m.1 187 0)).toInt := congrArg _ (g20.at (a := 187) (k := 0) (by decide))
              refine ⟨v2, rfl, ?_⟩
              refine ⟨?_, ?_⟩
              · intro c26
                have k27 := z_ne c26
                refine ⟨?_, ?_⟩
                · intro c28
                  have k29 := y_eqr (n := 0) rfl c28
                  exact ih.2.2 _ _ _ _ _ _ _ _ _ w_m1 f_m1 (by show (0 : Int) ≤ (x4).toInt; omega) (by show (x4).toInt ≤ (7 : Int); omega) (by show (0 : Int) ≤ (x6).toInt; omega) (by show (x6).toInt ≤ (11 : Int); omega) (by show (8 - (x4).toInt) * 100 + (12 - (x6).toInt) * 2 < _; omega)
                · intro c30
                  have k31 := y_ner (n := 0) rfl c30
                  refine ⟨?_, ?_⟩
                  · intro c32
                    have k33 := z_eq c32
                    have t34 := ti_addc (x := x6) (y := (1 : Int32)) (c := 1) rfl (by omega)
                    exact ih.2.1 _ _ _ _ _ _ _ w_m1 f_m1 (by show (0 : Int) ≤ (x4).toInt; omega) (by show (x4).toInt ≤ (7 : Int); omega) (by show (0 : Int) ≤ ((x6 + (1 : Int32))).toInt; omega) (by show ((x6 + (1 : Int32))).toInt ≤ (12 : Int); omega) (by show (8 - (x4).toInt) * 100 + (12 - ((x6 + (1 : Int32))).toInt) * 2 + 1 < _; omega)
                  · intro c35
                    have k36 := z_ne c35
                    exact ih.2.2 _ _ _ _ _ _ _ _ _ w_m1 f_m1 (by show (0 : Int) ≤ (x4).toInt; omega) (by show (x4).toInt ≤ (7 : Int); omega) (by show (0 : Int) ≤ (x6).toInt; omega) (by show (x6).toInt ≤ (11 : Int); omega) (by show (8 - (x4).toInt) * 100 + (12 - (x6).toInt) * 2 < _; omega)
              · intro c37
                have k38 := z_eq c37
                have t39 := ti_addc (x := x6) (y := (1 : Int32)) (c := 1) rfl (by omega)
                exact ih.2.1 _ _ _ _ _ _ _ w_m1 f_m1 (by show (0 : Int) ≤ (x4).toInt; omega) (by show (x4).toInt ≤ (7 : Int); omega) (by show (0 : Int) ≤ ((x6 + (1 : Int32))).toInt; omega) (by show ((x6 + (1 : Int32))).toInt ≤ (12 : Int); omega) (by show (8 - (x4).toInt) * 100 + (12 - ((x6 + (1 : Int32))).toInt) * 2 + 1 < _; omega)
    · intro m x1 x2 x3 x4 x6 x8 x9 s0 w f j1 j2 j3 j4 hn
      refine g_X12_found_113  ?_
      refine ⟨?_, ?_⟩
      · intro c1
        have k2 := y_eqr (n := 1) rfl c1
        have t3 := ti_addc (x := x6) (y := (1 : Int32)) (c := 1) rfl (by omega)
        exact ih.2.1 _ _ _ _ _ _ _ w f (by show (0 : Int) ≤ (x4).toInt; omega) (by show (x4).toInt ≤ (7 : Int); omega) (by show (0 : Int) ≤ ((x6 + (1 : Int32))).toInt; omega) (by show ((x6 + (1 : Int32))).toInt ≤ (12 : Int); omega) (by show (8 - (x4).toInt) * 100 + (12 - ((x6 + (1 : Int32))).toInt) * 2 + 1 < _; omega)
      · intro c4
        have k5 := y_ner (n := 1) rfl c4
        refine ⟨?_, ?_⟩
        · intro c6
          have k7 := z_ne c6
          have t8 := ti_addc (x := x6) (y := (1 : Int32)) (c := 1) rfl (by omega)
          exact ih.2.1 _ _ _ _ _ _ _ w f (by show (0 : Int) ≤ (x4).toInt; omega) (by show (x4).toInt ≤ (7 : Int); omega) (by show (0 : Int) ≤ ((x6 + (1 : Int32))).toInt; omega) (by show ((x6 + (1 : Int32))).toInt ≤ (12 : Int); omega) (by show (8 - (x4).toInt) * 100 + (12 - ((x6 + (1 : Int32))).toInt) * 2 + 1 < _; omega)
        · intro c9
          have k10 := z_eq c9
          have t11 := ti_addc (x := x6) (y := (1 : Int32)) (c := 1) rfl (by omega)
          exact ih.2.1 _ _ _ _ _ _ _ w f (by show (0 : Int) ≤ (x4).toInt; omega) (by show (x4).toInt ≤ (7 : Int); omega) (by show (0 : Int) ≤ ((x6 + (1 : Int32))).toInt; omega) (by show ((x6 + (1 : Int32))).toInt ≤ (12 : Int); omega) (by show (8 - (x4).toInt) * 100 + (12 - ((x6 + (1 : Int32))).toInt) * 2 + 1 < _; omega)
set_option maxHeartbeats 4000000 in
theorem s_X12_found {ad : Nat → Nat} {d : Nat} {m : Wm} (w : WT m) : Ct ad μX12_found (d + 170) [.ref (ad 187)] m (fun r m' => WT m' ∧ Fx (RS [20, 22, 26, 28]) m m' ∧ ∃ v : Int32, r = some (.int v)) := by
  have f : Fx (RS [20, 22, 26, 28]) m m := Fx.rf
  refine v_X12_found  ?_
  have w1 : WT (uI m 187 17 (0 : Int32)) := w.n rfl
  have f1 : Fx (RS [20, 22, 26, 28]) m (uI m 187 17 (0 : Int32)) := f.i rfl
  exact (l_X12_found (m0 := m) 1000000).1 _ _ _ _ _ w1 f1 (by show (0 : Int) ≤ (0 : Int); omega) (by show (0 : Int) ≤ (8 : Int); omega) (by show (8 - (0 : Int)) * 100 + 90 < _; omega)
set_option maxHeartbeats 4000000 in
theorem l_X12_prize {ad : Nat → Nat} {d : Nat} {m0 : Wm}  : ∀ n : Nat, (∀ (m : Wm) (x1 x2 x3 : Int32), WT m → Fx (RS [20, 26]) m0 m → (0 : Int) ≤ x1.toInt → x1.toInt ≤ (7 : Int) → (0 : Int) ≤ x3.toInt → x3.toInt ≤ (8 : Int) → 8 - x3.toInt < (n : Int) → AW ad E0 μX12_prize (d + 1) (fun r m' => WT m' ∧ Fx (RS [20, 26]) m0 m' ∧ ∃ v : Int32, r = some (.int v)) 21 [(0, .ref (ad 187)), (1, .int x1), (2, .int x2), (3, .int x3)] [] m) := by
  intro n
  induction n with
  | zero =>
    intros
    exfalso
    omega
  | succ n ih =>
    intro m x1 x2 x3 w f j1 j2 j3 j4 hn
    refine g_X12_prize_21  ?_
    refine ⟨?_, ?_⟩
    · intro c1
      have r2 := w.at (a := 187) (k := 1) rfl
      have k3 := z_le c1
      refine ⟨?_, ?_⟩
      · exact vpi (by omega) (by omega)
      · have w4 : WT (uI m 187 16 (0 : Int32)) := w.t rfl (by show (0 : Int) ≤ (0 : Int); omega) (by show (0 : Int) ≤ 16; omega)
        have f4 : Fx (RS [20, 26]) m0 (uI m 187 16 (0 : Int32)) := f.i rfl
        refine (s_X12_tell w4 (by show (0 : Int) ≤ 15; omega)).to ?_
        rintro _ m1 ⟨w_m1, g5, rfl, p6⟩
        have f_m1 : Fx (RS [20, 26]) m0 m1 := f4.tr g5 (RS_sub rfl)
        have p7 : (m1.1 187 16).toInt = (0 : Int) + 1 := p6
        clear p6
        have e8 : (m1.1 187 1).toInt = ((m.1 187 1)).toInt := congrArg _ (g5.at (a := 187) (k := 1) (by decide))
        have e9 : (m1.1 187 0).toInt = ((m.1 187 0)).toInt := congrArg _ (g5.at (a := 187) (k := 0) (by decide))
        refine ⟨rfl, ?_⟩
        have r10 := w_m1.at (a := 187) (k := 16) rfl
        refine (s_X12_tell w_m1 (by show ((m1.1 187 16)).toInt ≤ 15; omega)).to ?_
        rintro _ m2 ⟨w_m2, g11, rfl, p12⟩
        have f_m2 : Fx (RS [20, 26]) m0 m2 := f_m1.tr g11 (RS_sub rfl)
        have p13 : (m2.1 187 16).toInt = ((m1.1 187 16)).toInt + 1 := p12
        clear p12
        have e14 : (m2.1 187 1).toInt = ((m1.1 187 1)).toInt := congrArg _ (g11.at (a := 187) (k := 1) (by decide))
        have e15 : (m2.1 187 0).toInt = ((m1.1 187 0)).toInt := congrArg _ (g11.at (a := 187) (k := 0) (by decide))
        refine ⟨rfl, ?_⟩
        exact ⟨w_m2, f_m2, _, rfl⟩
    · intro c16
      have r17 := w.at (a := 187) (k := 1) rfl
      have k18 := z_nle c16
      refine ⟨?_, ?_⟩
      · exact vpi (by omega) (by omega)
      · refine ⟨?_, ?_⟩
        · exact vpi (by omega) (by omega)
        · refine ⟨?_, ?_⟩
          · exact vpi (by omega) (by omega)
          · refine ⟨?_, ?_⟩
            · intro c19
              have k20 := z_le c19
              have t21 := ti_addc (x := x3) (y := (1 : Int32)) (c := 1) rfl (by omega)
              exact ih _ _ _ _ w f (by show (0 : Int) ≤ (x1).toInt; omega) (by show (x1).toInt ≤ (7 : Int); omega) (by show (0 : Int) ≤ ((x3 + (1 : Int32))).toInt; omega) (by show ((x3 + (1 : Int32))).toInt ≤ (8 : Int); omega) (by show 8 - ((x3 + (1 : Int32))).toInt < _; omega)
            · intro c22
              have k23 := z_nle c22
              have t24 := ti_addc (x := x3) (y := (1 : Int32)) (c := 1) rfl (by omega)
              exact ih _ _ _ _ w f (by show (0 : Int) ≤ (x3).toInt; omega) (by show (x3).toInt ≤ (7 : Int); omega) (by show (0 : Int) ≤ ((x3 + (1 : Int32))).toInt; omega) (by show ((x3 + (1 : Int32))).toInt ≤ (8 : Int); omega) (by show 8 - ((x3 + (1 : Int32))).toInt < _; omega)
set_option maxHeartbeats 4000000 in
theorem s_X12_prize {ad : Nat → Nat} {d : Nat} {m : Wm} (w : WT m) : Ct ad μX12_prize (d + 1) [.ref (ad 187)] m (fun r m' => WT m' ∧ Fx (RS [20, 26]) m m' ∧ ∃ v : Int32, r = some (.int v)) := by
  have f : Fx (RS [20, 26]) m m := Fx.rf
  refine v_X12_prize  ?_
  refine ⟨?_, ?_⟩
  · intro c1
    have r2 := w.at (a := 187) (k := 1) rfl
    have c3 : ¬ (m.1 187 1) = (0 : Int32) := c1
    have k4 := y_ner (n := 0) rfl c3
    have w5 : WT (uI m 187 17 (0 : Int32)) := w.n rfl
    have f5 : Fx (RS [20, 26]) m (uI m 187 17 (0 : Int32)) := f.i rfl
    exact (l_X12_prize (m0 := m) 1000000) _ _ _ _ w5 f5 (by show (0 : Int) ≤ (0 : Int); omega) (by show (0 : Int) ≤ (7 : Int); omega) (by show (0 : Int) ≤ (0 : Int); omega) (by show (0 : Int) ≤ (8 : Int); omega) (by show 8 - (0 : Int) < _; omega)
  · intro c6
    have r7 := w.at (a := 187) (k := 1) rfl
    have c8 : (m.1 187 1) = (0 : Int32) := c6
    have k9 := y_eqr (n := 0) rfl c8
    have w10 : WT (uI m 187 17 (0 : Int32)) := w.n rfl
    have f10 : Fx (RS [20, 26]) m (uI m 187 17 (0 : Int32)) := f.i rfl
    exact ⟨w10, f10, _, rfl⟩
set_option maxHeartbeats 4000000 in
theorem s_X12_pointsBehind {ad : Nat → Nat} {d : Nat} {m : Wm} {x1 x2 : Int32} (w : WT m) (i1 : (0 : Int) ≤ x1.toInt) (i2 : x1.toInt ≤ (7 : Int)) (i3 : (0 : Int) ≤ x2.toInt) (i4 : x2.toInt ≤ (50 : Int)) (i5 : 1 ≤ (m.1 187 11).toInt) : Ct ad μX12_pointsBehind (d + 172) [.ref (ad 187), .int x1, .int x2] m (fun r m' => WT m' ∧ Fx (RS [22, 24, 28, 29, 31, 49]) m m' ∧ ∃ v : Int32, r = some (.int v)) := by
  have f : Fx (RS [22, 24, 28, 29, 31, 49]) m m := Fx.rf
  refine v_X12_pointsBehind  ?_
  have r1 := w.at (a := 187) (k := 11) rfl
  refine (s_X12_goRounds w (by show (0 : Int) ≤ (x2).toInt; omega) (by show (x2).toInt ≤ (200 : Int); omega) (by show 1 ≤ ((m.1 187 11)).toInt; omega)).to ?_
  rintro _ m1 ⟨w_m1, g2, rfl⟩
  have f_m1 : Fx (RS [22, 24, 28, 29, 31, 49]) m m1 := f.tr g2 (RS_sub rfl)
  have e3 : (m1.1 187 1).toInt = ((m.1 187 1)).toInt := congrArg _ (g2.at (a := 187) (k := 1) (by decide))
  have e4 : (m1.1 187 0).toInt = ((m.1 187 0)).toInt := congrArg _ (g2.at (a := 187) (k := 0) (by decide))
  refine ⟨rfl, ?_⟩
  refine ⟨?_, ?_⟩
  · exact vpi (by omega) (by omega)
  · refine (s_X12_bring_202 w_m1 (by show (0 : Int) ≤ (0 : Int); omega) (by show (0 : Int) ≤ (0 : Int); omega)).to ?_
    rintro _ m2 ⟨w_m2, g5, rfl⟩
    have f_m2 : Fx (RS [22, 24, 28, 29, 31, 49]) m m2 := f_m1.tr g5 (RS_sub rfl)
    have e6 : (m2.1 187 1).toInt = ((m1.1 187 1)).toInt := congrArg _ (g5.at (a := 187) (k := 1) (by decide))
    have e7 : (m2.1 187 0).toInt = ((m1.1 187 0)).toInt := congrArg _ (g5.at (a := 187) (k := 0) (by decide))
    refine ⟨rfl, ?_⟩
    exact ⟨w_m2, f_m2, _, rfl⟩
set_option maxHeartbeats 4000000 in
theorem l_X12_pays {ad : Nat → Nat} {d : Nat} {m0 : Wm}  : ∀ n : Nat, (∀ (m : Wm) (x1 x2 x3 s0 s1 : Int32), WT m → Fx (RS [20, 22, 24, 26, 28, 29, 30, 31, 46, 49]) m0 m → (0 : Int) ≤ x1.toInt → x1.toInt ≤ (7 : Int) → (0 : Int) ≤ x2.toInt → x2.toInt ≤ (50 : Int) → (0 : Int) ≤ s1.toInt → s1.toInt ≤ (7 : Int) → (1 ≤ (m.1 187 11).toInt) → 0 * x1.toInt + 2 < (n : Int) → AW ad E0 μX12_pays (d + 173) (fun r m' => WT m' ∧ Fx (RS [20, 22, 24, 26, 28, 29, 30, 31, 46, 49]) m0 m' ∧ ∃ v : Int32, r = some (.int v)) 69 [(0, .ref (ad 187)), (1, .int x1), (2, .int x2), (3, .int x3)] [.int s0, .int s1, .ref (ad 189)] m) ∧ (∀ (m : Wm) (x3 x4 s0 s1 : Int32), WT m → Fx (RS [20, 22, 24, 26, 28, 29, 30, 31, 46, 49]) m0 m → (0 : Int) ≤ s1.toInt → s1.toInt ≤ (7 : Int) → 0 * x3.toInt + 1 < (n : Int) → AW ad E0 μX12_pays (d + 173) (fun r m' => WT m' ∧ Fx (RS [20, 22, 24, 26, 28, 29, 30, 31, 46, 49]) m0 m' ∧ ∃ v : Int32, r = some (.int v)) 97 [(0, .ref (ad 187)), (3, .int x3), (4, .int x4)] [.int s0, .int s1, .ref (ad 189)] m) := by
  intro n
  induction n with
  | zero =>
    refine ⟨?_, ?_⟩ <;> intros <;> exfalso <;> omega
  | succ n ih =>
    refine ⟨?_, ?_⟩
    · intro m x1 x2 x3 s0 s1 w f j1 j2 j3 j4 j5 j6 j7 hn
      refine g_X12_pays_69 ly_189 ?_
      refine ⟨?_, ?_⟩
      · exact vpi (by omega) (by omega)
      · have w1 : WT (uI m 189 s1.toNatClampNeg (vp_nar .boolean s0)) := w.n rfl
        have f1 : Fx (RS [20, 22, 24, 26, 28, 29, 30, 31, 46, 49]) m0 (uI m 189 s1.toNatClampNeg (vp_nar .boolean s0)) := f.i rfl
        have r2 := w.at (a := 187) (k := 11) rfl
        refine (s_X12_pointsBehind w1 (by show (0 : Int) ≤ (x1).toInt; omega) (by show (x1).toInt ≤ (7 : Int); omega) (by show (0 : Int) ≤ (x2).toInt; omega) (by show (x2).toInt ≤ (50 : Int); omega) (by show 1 ≤ ((m.1 187 11)).toInt; omega)).to ?_
        rintro _ m1 ⟨w_m1, g3, v2, rfl⟩
        have f_m1 : Fx (RS [20, 22, 24, 26, 28, 29, 30, 31, 46, 49]) m0 m1 := f1.tr g3 (RS_sub rfl)
        have e4 : (m1.1 187 11).toInt = ((m.1 187 11)).toInt := congrArg _ (g3.at (a := 187) (k := 11) (by decide))
        have e5 : (m1.1 187 10).toInt = ((m.1 187 10)).toInt := congrArg _ (g3.at (a := 187) (k := 10) (by decide))
        have e6 : (m1.1 187 16).toInt = ((m.1 187 16)).toInt := congrArg _ (g3.at (a := 187) (k := 16) (by decide))
        have e7 : (m1.1 187 1).toInt = ((m.1 187 1)).toInt := congrArg _ (g3.at (a := 187) (k := 1) (by decide))
        have e8 : (m1.1 187 0).toInt = ((m.1 187 0)).toInt := congrArg _ (g3.at (a := 187) (k := 0) (by decide))
        refine ⟨v2, rfl, ?_⟩
        refine ⟨?_, ?_⟩
        · exact vpi (by omega) (by omega)
        · refine ⟨?_, ?_⟩
          · intro c9
            have k10 := y_ner (n := 0) rfl c9
            exact ih.2 _ _ _ _ _ w_m1 f_m1 (by show (0 : Int) ≤ (x1).toInt; omega) (by show (x1).toInt ≤ (7 : Int); omega) (by show 0 * (x3).toInt + 1 < _; omega)
          · intro c11
            have k12 := y_eqr (n := 0) rfl c11
            exact ih.2 _ _ _ _ _ w_m1 f_m1 (by show (0 : Int) ≤ (x1).toInt; omega) (by show (x1).toInt ≤ (7 : Int); omega) (by show 0 * (x3).toInt + 1 < _; omega)
    · intro m x3 x4 s0 s1 w f j1 j2 hn
      refine g_X12_pays_97 ly_189 ?_
      refine ⟨?_, ?_⟩
      · exact vpi (by omega) (by omega)
      · have w1 : WT (uI m 189 s1.toNatClampNeg (vp_nar .boolean s0)) := w.n rfl
        have f1 : Fx (RS [20, 22, 24, 26, 28, 29, 30, 31, 46, 49]) m0 (uI m 189 s1.toNatClampNeg (vp_nar .boolean s0)) := f.i rfl
        have w2 : WT (uI (uI m 189 s1.toNatClampNeg (vp_nar .boolean s0)) 187 16 (0 : Int32)) := w1.t rfl (by show (0 : Int) ≤ (0 : Int); omega) (by show (0 : Int) ≤ 16; omega)
        have f2 : Fx (RS [20, 22, 24, 26, 28, 29, 30, 31, 46, 49]) m0 (uI (uI m 189 s1.toNatClampNeg (vp_nar .boolean s0)) 187 16 (0 : Int32)) := f1.i rfl
        refine (s_X12_tell w2 (by show (0 : Int) ≤ 15; omega)).to ?_
        rintro _ m1 ⟨w_m1, g3, rfl, p4⟩
        have f_m1 : Fx (RS [20, 22, 24, 26, 28, 29, 30, 31, 46, 49]) m0 m1 := f2.tr g3 (RS_sub rfl)
        have p5 : (m1.1 187 16).toInt = (0 : Int) + 1 := p4
        clear p4
        have e6 : (m1.1 187 11).toInt = ((m.1 187 11)).toInt := congrArg _ (g3.at (a := 187) (k := 11) (by decide))
        have e7 : (m1.1 187 10).toInt = ((m.1 187 10)).toInt := congrArg _ (g3.at (a := 187) (k := 10) (by decide))
        have e8 : (m1.1 187 1).toInt = ((m.1 187 1)).toInt := congrArg _ (g3.at (a := 187) (k := 1) (by decide))
        have e9 : (m1.1 187 0).toInt = ((m.1 187 0)).toInt := congrArg _ (g3.at (a := 187) (k := 0) (by decide))
        refine ⟨rfl, ?_⟩
        have r10 := w_m1.at (a := 187) (k := 16) rfl
        refine (s_X12_tell w_m1 (by show ((m1.1 187 16)).toInt ≤ 15; omega)).to ?_
        rintro _ m2 ⟨w_m2, g11, rfl, p12⟩
        have f_m2 : Fx (RS [20, 22, 24, 26, 28, 29, 30, 31, 46, 49]) m0 m2 := f_m1.tr g11 (RS_sub rfl)
        have p13 : (m2.1 187 16).toInt = ((m1.1 187 16)).toInt + 1 := p12
        clear p12
        have e14 : (m2.1 187 11).toInt = ((m1.1 187 11)).toInt := congrArg _ (g11.at (a := 187) (k := 11) (by decide))
        have e15 : (m2.1 187 10).toInt = ((m1.1 187 10)).toInt := congrArg _ (g11.at (a := 187) (k := 10) (by decide))
        have e16 : (m2.1 187 1).toInt = ((m1.1 187 1)).toInt := congrArg _ (g11.at (a := 187) (k := 1) (by decide))
        have e17 : (m2.1 187 0).toInt = ((m1.1 187 0)).toInt := congrArg _ (g11.at (a := 187) (k := 0) (by decide))
        refine ⟨rfl, ?_⟩
        exact ⟨w_m2, f_m2, _, rfl⟩
set_option maxHeartbeats 4000000 in
theorem s_X12_pays {ad : Nat → Nat} {d : Nat} {m : Wm} {x1 x2 : Int32} (w : WT m) : Ct ad μX12_pays (d + 173) [.ref (ad 187), .int x1, .int x2] m (fun r m' => WT m' ∧ Fx (RS [20, 22, 24, 26, 28, 29, 30, 31, 46, 49]) m m' ∧ ∃ v : Int32, r = some (.int v)) := by
  have f : Fx (RS [20, 22, 24, 26, 28, 29, 30, 31, 46, 49]) m m := Fx.rf
  refine v_X12_pays  ?_
  have w1 : WT (uI m 187 17 (0 : Int32)) := w.n rfl
  have f1 : Fx (RS [20, 22, 24, 26, 28, 29, 30, 31, 46, 49]) m (uI m 187 17 (0 : Int32)) := f.i rfl
  refine (s_X12_isSide w1).to ?_
  rintro _ m1 ⟨w_m1, g2, v2, rfl, p4, p5, p3⟩
  have f_m1 : Fx (RS [20, 22, 24, 26, 28, 29, 30, 31, 46, 49]) m m1 := f1.tr g2 (RS_sub rfl)
  have p6 : (v2.toInt = 0 ∧ ((x1).toInt < 0 ∨ ((m.1 187 1)).toInt ≤ (x1).toInt)) ∨ (v2.toInt = 1 ∧ 0 ≤ (x1).toInt ∧ (x1).toInt < ((m.1 187 1)).toInt) := p3
  clear p3
  have e7 : (m1.1 187 11).toInt = ((m.1 187 11)).toInt := congrArg _ (g2.at (a := 187) (k := 11) (by decide))
  have e8 : (m1.1 187 10).toInt = ((m.1 187 10)).toInt := congrArg _ (g2.at (a := 187) (k := 10) (by decide))
  have e9 : (m1.1 187 16).toInt = ((m.1 187 16)).toInt := congrArg _ (g2.at (a := 187) (k := 16) (by decide))
  have e10 : (m1.1 187 1).toInt = ((m.1 187 1)).toInt := congrArg _ (g2.at (a := 187) (k := 1) (by decide))
  have e11 : (m1.1 187 0).toInt = ((m.1 187 0)).toInt := congrArg _ (g2.at (a := 187) (k := 0) (by decide))
  refine ⟨v2, rfl, ?_⟩
  refine ⟨?_, ?_⟩
  · intro c12
    have k13 := y_eqr (n := 0) rfl c12
    exact ⟨w_m1, f_m1, _, rfl⟩
  · intro c14
    have k15 := y_ner (n := 0) rfl c14
    have r16 := w.at (a := 187) (k := 1) rfl
    refine (s_X12_in (x := x2) (lo := (0 : Int32)) (hi := (50 : Int32)) w_m1 rfl rfl).to ?_
    rintro _ m3 ⟨w_m3, g17, v4, rfl, p19, p20, p18⟩
    have f_m3 : Fx (RS [20, 22, 24, 26, 28, 29, 30, 31, 46, 49]) m m3 := f_m1.tr g17 (RS_sub rfl)
    have p21 : (v4.toInt = 0 ∧ ((x2).toInt < (0 : Int) ∨ (50 : Int) < (x2).toInt)) ∨ (v4.toInt = 1 ∧ (0 : Int) ≤ (x2).toInt ∧ (x2).toInt ≤ (50 : Int)) := p18
    clear p18
    have e22 : (m3.1 187 11).toInt = ((m1.1 187 11)).toInt := congrArg _ (g17.at (a := 187) (k := 11) (by decide))
    have e23 : (m3.1 187 10).toInt = ((m1.1 187 10)).toInt := congrArg _ (g17.at (a := 187) (k := 10) (by decide))
    have e24 : (m3.1 187 16).toInt = ((m1.1 187 16)).toInt := congrArg _ (g17.at (a := 187) (k := 16) (by decide))
    have e25 : (m3.1 187 1).toInt = ((m1.1 187 1)).toInt := congrArg _ (g17.at (a := 187) (k := 1) (by decide))
    have e26 : (m3.1 187 0).toInt = ((m1.1 187 0)).toInt := congrArg _ (g17.at (a := 187) (k := 0) (by decide))
    refine ⟨v4, rfl, ?_⟩
    refine ⟨?_, ?_⟩
    · intro c27
      have k28 := y_eqr (n := 0) rfl c27
      exact ⟨w_m3, f_m3, _, rfl⟩
    · intro c29
      have k30 := y_ner (n := 0) rfl c29
      refine ⟨?_, ?_⟩
      · intro c31
        have r32 := w_m3.at (a := 187) (k := 11) rfl
        have k33 := y_ner (n := 0) rfl c31
        refine (s_X12_lay_202 w_m3 (by show (0 : Int) ≤ (0 : Int); omega) (by show (0 : Int) ≤ (0 : Int); omega)).to ?_
        rintro _ m5 ⟨w_m5, g34, rfl⟩
        have f_m5 : Fx (RS [20, 22, 24, 26, 28, 29, 30, 31, 46, 49]) m m5 := f_m3.tr g34 (RS_sub rfl)
        have e35 : (m5.1 187 11).toInt = ((m3.1 187 11)).toInt := congrArg _ (g34.at (a := 187) (k := 11) (by decide))
        have e36 : (m5.1 187 10).toInt = ((m3.1 187 10)).toInt := congrArg _ (g34.at (a := 187) (k := 10) (by decide))
        have e37 : (m5.1 187 16).toInt = ((m3.1 187 16)).toInt := congrArg _ (g34.at (a := 187) (k := 16) (by decide))
        have e38 : (m5.1 187 1).toInt = ((m3.1 187 1)).toInt := congrArg _ (g34.at (a := 187) (k := 1) (by decide))
        have e39 : (m5.1 187 0).toInt = ((m3.1 187 0)).toInt := congrArg _ (g34.at (a := 187) (k := 0) (by decide))
        refine ⟨rfl, ?_⟩
        have r40 := w_m5.at (a := 187) (k := 11) rfl
        refine (s_X12_pointsBehind w_m5 (by show (0 : Int) ≤ (x1).toInt; omega) (by show (x1).toInt ≤ (7 : Int); omega) (by show (0 : Int) ≤ (x2).toInt; omega) (by show (x2).toInt ≤ (50 : Int); omega) (by show 1 ≤ ((m5.1 187 11)).toInt; omega)).to ?_
        rintro _ m6 ⟨w_m6, g41, v7, rfl⟩
        have f_m6 : Fx (RS [20, 22, 24, 26, 28, 29, 30, 31, 46, 49]) m m6 := f_m5.tr g41 (RS_sub rfl)
        have e42 : (m6.1 187 11).toInt = ((m5.1 187 11)).toInt := congrArg _ (g41.at (a := 187) (k := 11) (by decide))
        have e43 : (m6.1 187 10).toInt = ((m5.1 187 10)).toInt := congrArg _ (g41.at (a := 187) (k := 10) (by decide))
        have e44 : (m6.1 187 16).toInt = ((m5.1 187 16)).toInt := congrArg _ (g41.at (a := 187) (k := 16) (by decide))
        have e45 : (m6.1 187 1).toInt = ((m5.1 187 1)).toInt := congrArg _ (g41.at (a := 187) (k := 1) (by decide))
        have e46 : (m6.1 187 0).toInt = ((m5.1 187 0)).toInt := congrArg _ (g41.at (a := 187) (k := 0) (by decide))
        refine ⟨v7, rfl, ?_⟩
        refine ⟨?_, ?_⟩
        · exact vpi (by omega) (by omega)
        · refine ⟨?_, ?_⟩
          · intro c47
            have k48 := y_ner (n := 0) rfl c47
            have r49 := w_m6.at (a := 187) (k := 11) rfl
            exact (l_X12_pays (m0 := m) 1000000).1 _ _ _ _ _ _ w_m6 f_m6 (by show (0 : Int) ≤ (x1).toInt; omega) (by show (x1).toInt ≤ (7 : Int); omega) (by show (0 : Int) ≤ (x2).toInt; omega) (by show (x2).toInt ≤ (50 : Int); omega) (by show (0 : Int) ≤ (x1).toInt; omega) (by show (x1).toInt ≤ (7 : Int); omega) (by show 1 ≤ ((m6.1 187 11)).toInt; omega) (by show 0 * (x1).toInt + 2 < _; omega)
          · intro c50
            have k51 := y_eqr (n := 0) rfl c50
            have r52 := w_m6.at (a := 187) (k := 11) rfl
            exact (l_X12_pays (m0 := m) 1000000).1 _ _ _ _ _ _ w_m6 f_m6 (by show (0 : Int) ≤ (x1).toInt; omega) (by show (x1).toInt ≤ (7 : Int); omega) (by show (0 : Int) ≤ (x2).toInt; omega) (by show (x2).toInt ≤ (50 : Int); omega) (by show (0 : Int) ≤ (x1).toInt; omega) (by show (x1).toInt ≤ (7 : Int); omega) (by show 1 ≤ ((m6.1 187 11)).toInt; omega) (by show 0 * (x1).toInt + 2 < _; omega)
      · intro c53
        have r54 := w_m3.at (a := 187) (k := 11) rfl
        have k55 := y_eqr (n := 0) rfl c53
        exact ⟨w_m3, f_m3, _, rfl⟩
set_option maxHeartbeats 4000000 in
theorem l_X12_laws {ad : Nat → Nat} {d : Nat} {m0 : Wm}  : ∀ n : Nat, (∀ (m : Wm) (x1 x2 x3 x4 x5 : Int32), WT m → Fx (RS [20, 22, 24, 26, 28, 29, 30, 31, 47, 49]) m0 m → (0 : Int) ≤ x1.toInt → x1.toInt ≤ (50 : Int) → (0 : Int) ≤ x5.toInt → x5.toInt ≤ (4 : Int) → (1 ≤ (m.1 187 11).toInt) → ((m.1 187 16).toInt = x5.toInt) → 4 - x5.toInt < (n : Int) → AW ad E0 μX12_laws (d + 172) (fun r m' => WT m' ∧ Fx (RS [20, 22, 24, 26, 28, 29, 30, 31, 47, 49]) m0 m' ∧ ∃ v : Int32, r = some (.int v)) 55 [(0, .ref (ad 187)), (1, .int x1), (2, .int x2), (3, .int x3), (4, .int x4), (5, .int x5)] [] m) := by
  intro n
  induction n with
  | zero =>
    intros
    exfalso
    omega
  | succ n ih =>
    intro m x1 x2 x3 x4 x5 w f j1 j2 j3 j4 j5 j6 hn
    refine g_X12_laws_55  ?_
    refine ⟨?_, ?_⟩
    · intro c1
      have k2 := y_lel (n := 4) rfl c1
      have w3 : WT (uI m 193 ((0 : Int32).toNatClampNeg) x2) := w.n rfl
      have f3 : Fx (RS [20, 22, 24, 26, 28, 29, 30, 31, 47, 49]) m0 (uI m 193 ((0 : Int32).toNatClampNeg) x2) := f.i rfl
      exact ⟨w3, f3, _, rfl⟩
    · intro c4
      have k5 := y_nlel (n := 4) rfl c4
      have w6 : WT (uI m 193 ((0 : Int32).toNatClampNeg) x5) := w.n rfl
      have f6 : Fx (RS [20, 22, 24, 26, 28, 29, 30, 31, 47, 49]) m0 (uI m 193 ((0 : Int32).toNatClampNeg) x5) := f.i rfl
      have r7 := w.at (a := 187) (k := 11) rfl
      refine (s_X12_goRounds w6 (by show (0 : Int) ≤ (x1).toInt; omega) (by show (x1).toInt ≤ (200 : Int); omega) (by show 1 ≤ ((m.1 187 11)).toInt; omega)).to ?_
      rintro _ m1 ⟨w_m1, g8, rfl⟩
      have f_m1 : Fx (RS [20, 22, 24, 26, 28, 29, 30, 31, 47, 49]) m0 m1 := f6.tr g8 (RS_sub rfl)
      have e9 : (m1.1 187 11).toInt = ((m.1 187 11)).toInt := congrArg _ (g8.at (a := 187) (k := 11) (by decide))
      have e10 : (m1.1 187 10).toInt = ((m.1 187 10)).toInt := congrArg _ (g8.at (a := 187) (k := 10) (by decide))
      have e11 : (m1.1 187 16).toInt = ((m.1 187 16)).toInt := congrArg _ (g8.at (a := 187) (k := 16) (by decide))
      have e12 : (m1.1 187 1).toInt = ((m.1 187 1)).toInt := congrArg _ (g8.at (a := 187) (k := 1) (by decide))
      have e13 : (m1.1 187 0).toInt = ((m.1 187 0)).toInt := congrArg _ (g8.at (a := 187) (k := 0) (by decide))
      refine ⟨rfl, ?_⟩
      refine (s_X12_sumOfAll w_m1).to ?_
      rintro _ m2 ⟨w_m2, g14, v3, rfl⟩
      have f_m2 : Fx (RS [20, 22, 24, 26, 28, 29, 30, 31, 47, 49]) m0 m2 := f_m1.tr g14 (RS_sub rfl)
      have e15 : (m2.1 187 11).toInt = ((m1.1 187 11)).toInt := congrArg _ (g14.at (a := 187) (k := 11) (by decide))
      have e16 : (m2.1 187 10).toInt = ((m1.1 187 10)).toInt := congrArg _ (g14.at (a := 187) (k := 10) (by decide))
      have e17 : (m2.1 187 16).toInt = ((m1.1 187 16)).toInt := congrArg _ (g14.at (a := 187) (k := 16) (by decide))
      have e18 : (m2.1 187 1).toInt = ((m1.1 187 1)).toInt := congrArg _ (g14.at (a := 187) (k := 1) (by decide))
      have e19 : (m2.1 187 0).toInt = ((m1.1 187 0)).toInt := congrArg _ (g14.at (a := 187) (k := 0) (by decide))
      refine ⟨v3, rfl, ?_⟩
      refine (s_X12_bring_202 w_m2 (by show (0 : Int) ≤ (0 : Int); omega) (by show (0 : Int) ≤ (0 : Int); omega)).to ?_
      rintro _ m4 ⟨w_m4, g20, rfl⟩
      have f_m4 : Fx (RS [20, 22, 24, 26, 28, 29, 30, 31, 47, 49]) m0 m4 := f_m2.tr g20 (RS_sub rfl)
      have e21 : (m4.1 187 11).toInt = ((m2.1 187 11)).toInt := congrArg _ (g20.at (a := 187) (k := 11) (by decide))
      have e22 : (m4.1 187 10).toInt = ((m2.1 187 10)).toInt := congrArg _ (g20.at (a := 187) (k := 10) (by decide))
      have e23 : (m4.1 187 16).toInt = ((m2.1 187 16)).toInt := congrArg _ (g20.at (a := 187) (k := 16) (by decide))
      have e24 : (m4.1 187 1).toInt = ((m2.1 187 1)).toInt := congrArg _ (g20.at (a := 187) (k := 1) (by decide))
      have e25 : (m4.1 187 0).toInt = ((m2.1 187 0)).toInt := congrArg _ (g20.at (a := 187) (k := 0) (by decide))
      refine ⟨rfl, ?_⟩
      have r26 := w_m4.at (a := 187) (k := 16) rfl
      refine (s_X12_tell w_m4 (by show ((m4.1 187 16)).toInt ≤ 15; omega)).to ?_
      rintro _ m5 ⟨w_m5, g27, rfl, p28⟩
      have f_m5 : Fx (RS [20, 22, 24, 26, 28, 29, 30, 31, 47, 49]) m0 m5 := f_m4.tr g27 (RS_sub rfl)
      have p29 : (m5.1 187 16).toInt = ((m4.1 187 16)).toInt + 1 := p28
      clear p28
      have e30 : (m5.1 187 11).toInt = ((m4.1 187 11)).toInt := congrArg _ (g27.at (a := 187) (k := 11) (by decide))
      have e31 : (m5.1 187 10).toInt = ((m4.1 187 10)).toInt := congrArg _ (g27.at (a := 187) (k := 10) (by decide))
      have e32 : (m5.1 187 1).toInt = ((m4.1 187 1)).toInt := congrArg _ (g27.at (a := 187) (k := 1) (by decide))
      have e33 : (m5.1 187 0).toInt = ((m4.1 187 0)).toInt := congrArg _ (g27.at (a := 187) (k := 0) (by decide))
      refine ⟨rfl, ?_⟩
      refine ⟨?_, ?_⟩
      · intro c34
        have k35 := y_ler (n := 0) rfl c34
        have t36 := ti_addc (x := x5) (y := (1 : Int32)) (c := 1) rfl (by omega)
        have r37 := w_m5.at (a := 187) (k := 11) rfl
        have r38 := w_m5.at (a := 187) (k := 16) rfl
        exact ih _ _ _ _ _ _ w_m5 f_m5 (by show (0 : Int) ≤ (x1).toInt; omega) (by show (x1).toInt ≤ (50 : Int); omega) (by show (0 : Int) ≤ ((x5 + (1 : Int32))).toInt; omega) (by show ((x5 + (1 : Int32))).toInt ≤ (4 : Int); omega) (by show 1 ≤ ((m5.1 187 11)).toInt; omega) (by show ((m5.1 187 16)).toInt = ((x5 + (1 : Int32))).toInt; omega) (by show 4 - ((x5 + (1 : Int32))).toInt < _; omega)
      · intro c39
        have k40 := y_nler (n := 0) rfl c39
        refine ⟨?_, ?_⟩
        · intro c41
          have k42 := z_lt c41
          have t43 := ti_addc (x := x5) (y := (1 : Int32)) (c := 1) rfl (by omega)
          have r44 := w_m5.at (a := 187) (k := 11) rfl
          have r45 := w_m5.at (a := 187) (k := 16) rfl
          exact ih _ _ _ _ _ _ w_m5 f_m5 (by show (0 : Int) ≤ (x1).toInt; omega) (by show (x1).toInt ≤ (50 : Int); omega) (by show (0 : Int) ≤ ((x5 + (1 : Int32))).toInt; omega) (by show ((x5 + (1 : Int32))).toInt ≤ (4 : Int); omega) (by show 1 ≤ ((m5.1 187 11)).toInt; omega) (by show ((m5.1 187 16)).toInt = ((x5 + (1 : Int32))).toInt; omega) (by show 4 - ((x5 + (1 : Int32))).toInt < _; omega)
        · intro c46
          have k47 := z_nlt c46
          have t48 := ti_addc (x := x5) (y := (1 : Int32)) (c := 1) rfl (by omega)
          have r49 := w_m5.at (a := 187) (k := 11) rfl
          have r50 := w_m5.at (a := 187) (k := 16) rfl
          exact ih _ _ _ _ _ _ w_m5 f_m5 (by show (0 : Int) ≤ (x1).toInt; omega) (by show (x1).toInt ≤ (50 : Int); omega) (by show (0 : Int) ≤ ((x5 + (1 : Int32))).toInt; omega) (by show ((x5 + (1 : Int32))).toInt ≤ (4 : Int); omega) (by show 1 ≤ ((m5.1 187 11)).toInt; omega) (by show ((m5.1 187 16)).toInt = ((x5 + (1 : Int32))).toInt; omega) (by show 4 - ((x5 + (1 : Int32))).toInt < _; omega)
set_option maxHeartbeats 4000000 in
theorem s_X12_laws {ad : Nat → Nat} {d : Nat} {m : Wm} {x1 : Int32} (w : WT m) : Ct ad μX12_laws (d + 172) [.ref (ad 187), .int x1] m (fun r m' => WT m' ∧ Fx (RS [20, 22, 24, 26, 28, 29, 30, 31, 47, 49]) m m' ∧ ∃ v : Int32, r = some (.int v)) := by
  have f : Fx (RS [20, 22, 24, 26, 28, 29, 30, 31, 47, 49]) m m := Fx.rf
  refine v_X12_laws  ?_
  have w1 : WT (uI m 187 17 (0 : Int32)) := w.n rfl
  have f1 : Fx (RS [20, 22, 24, 26, 28, 29, 30, 31, 47, 49]) m (uI m 187 17 (0 : Int32)) := f.i rfl
  refine (s_X12_in (x := x1) (lo := (0 : Int32)) (hi := (50 : Int32)) w1 rfl rfl).to ?_
  rintro _ m1 ⟨w_m1, g2, v2, rfl, p4, p5, p3⟩
  have f_m1 : Fx (RS [20, 22, 24, 26, 28, 29, 30, 31, 47, 49]) m m1 := f1.tr g2 (RS_sub rfl)
  have p6 : (v2.toInt = 0 ∧ ((x1).toInt < (0 : Int) ∨ (50 : Int) < (x1).toInt)) ∨ (v2.toInt = 1 ∧ (0 : Int) ≤ (x1).toInt ∧ (x1).toInt ≤ (50 : Int)) := p3
  clear p3
  have e7 : (m1.1 187 11).toInt = ((m.1 187 11)).toInt := congrArg _ (g2.at (a := 187) (k := 11) (by decide))
  have e8 : (m1.1 187 10).toInt = ((m.1 187 10)).toInt := congrArg _ (g2.at (a := 187) (k := 10) (by decide))
  have e9 : (m1.1 187 16).toInt = ((m.1 187 16)).toInt := congrArg _ (g2.at (a := 187) (k := 16) (by decide))
  have e10 : (m1.1 187 1).toInt = ((m.1 187 1)).toInt := congrArg _ (g2.at (a := 187) (k := 1) (by decide))
  have e11 : (m1.1 187 0).toInt = ((m.1 187 0)).toInt := congrArg _ (g2.at (a := 187) (k := 0) (by decide))
  refine ⟨v2, rfl, ?_⟩
  refine ⟨?_, ?_⟩
  · intro c12
    have k13 := y_eqr (n := 0) rfl c12
    exact ⟨w_m1, f_m1, _, rfl⟩
  · intro c14
    have k15 := y_ner (n := 0) rfl c14
    refine ⟨?_, ?_⟩
    · intro c16
      have r17 := w_m1.at (a := 187) (k := 11) rfl
      have k18 := y_ner (n := 0) rfl c16
      refine (s_X12_lay_202 w_m1 (by show (0 : Int) ≤ (0 : Int); omega) (by show (0 : Int) ≤ (0 : Int); omega)).to ?_
      rintro _ m3 ⟨w_m3, g19, rfl⟩
      have f_m3 : Fx (RS [20, 22, 24, 26, 28, 29, 30, 31, 47, 49]) m m3 := f_m1.tr g19 (RS_sub rfl)
      have e20 : (m3.1 187 11).toInt = ((m1.1 187 11)).toInt := congrArg _ (g19.at (a := 187) (k := 11) (by decide))
      have e21 : (m3.1 187 10).toInt = ((m1.1 187 10)).toInt := congrArg _ (g19.at (a := 187) (k := 10) (by decide))
      have e22 : (m3.1 187 16).toInt = ((m1.1 187 16)).toInt := congrArg _ (g19.at (a := 187) (k := 16) (by decide))
      have e23 : (m3.1 187 1).toInt = ((m1.1 187 1)).toInt := congrArg _ (g19.at (a := 187) (k := 1) (by decide))
      have e24 : (m3.1 187 0).toInt = ((m1.1 187 0)).toInt := congrArg _ (g19.at (a := 187) (k := 0) (by decide))
      refine ⟨rfl, ?_⟩
      have w25 : WT (uI m3 187 16 (0 : Int32)) := w_m3.t rfl (by show (0 : Int) ≤ (0 : Int); omega) (by show (0 : Int) ≤ 16; omega)
      have f25 : Fx (RS [20, 22, 24, 26, 28, 29, 30, 31, 47, 49]) m (uI m3 187 16 (0 : Int32)) := f_m3.i rfl
      have r26 := w_m3.at (a := 187) (k := 11) rfl
      exact (l_X12_laws (m0 := m) 1000000) _ _ _ _ _ _ w25 f25 (by show (0 : Int) ≤ (x1).toInt; omega) (by show (x1).toInt ≤ (50 : Int); omega) (by show (0 : Int) ≤ (0 : Int); omega) (by show (0 : Int) ≤ (4 : Int); omega) (by show 1 ≤ ((m3.1 187 11)).toInt; omega) (by show (0 : Int) = (0 : Int); omega) (by show 4 - (0 : Int) < _; omega)
    · intro c27
      have r28 := w_m1.at (a := 187) (k := 11) rfl
      have k29 := y_eqr (n := 0) rfl c27
      exact ⟨w_m1, f_m1, _, rfl⟩
set_option maxHeartbeats 4000000 in
theorem s_X12_seed {ad : Nat → Nat} {d : Nat} {m : Wm} {x1 : Int32} (w : WT m) : Ct ad μX12_seed d [.ref (ad 187), .int x1] m (fun r m' => WT m' ∧ Fx (RS [20, 49]) m m' ∧ ∃ v : Int32, r = some (.int v)) := by
  have f : Fx (RS [20, 49]) m m := Fx.rf
  refine v_X12_seed  ?_
  have w1 : WT (uI m 187 17 (0 : Int32)) := w.n rfl
  have f1 : Fx (RS [20, 49]) m (uI m 187 17 (0 : Int32)) := f.i rfl
  have w2 : WT (uI (uI m 187 17 (0 : Int32)) 187 8 x1) := w1.n rfl
  have f2 : Fx (RS [20, 49]) m (uI (uI m 187 17 (0 : Int32)) 187 8 x1) := f1.i rfl
  exact ⟨w2, f2, _, rfl⟩
set_option maxHeartbeats 4000000 in
theorem l_X12_keep {ad : Nat → Nat} {d : Nat} {m0 : Wm} {x1 : Int32} (hxx10 : 0 ≤ x1.toInt) (hxx11 : x1.toInt < 2) : ∀ n : Nat, (∀ (m : Wm) (x2 x3 : Int32), WT m → Fx (RS [20, 40]) m0 m → (57 : Int) ≤ x2.toInt → x2.toInt ≤ (128 : Int) → (0 : Int) ≤ x3.toInt → x3.toInt ≤ (8 : Int) → (8 - x3.toInt) + 100 < (n : Int) → AW ad E0 μX12_keep (d + 1) (fun r m' => WT m' ∧ Fx (RS [20, 40]) m0 m' ∧ ∃ v : Int32, r = some (.int v) ∧ (0 : Int) ≤ v.toInt ∧ v.toInt ≤ 1 ∧ ((v.toInt = 1 ∧ 0 ≤ x1.toInt ∧ x1.toInt < 2) ∨ (v.toInt = 0 ∧ (x1.toInt < 0 ∨ 2 ≤ x1.toInt)))) 53 [(0, .ref (ad 187)), (2, .int x2), (3, .int x3)] [] m) ∧ (∀ (m : Wm) (x2 x3 : Int32), WT m → Fx (RS [20, 40]) m0 m → (65 : Int) ≤ x2.toInt → x2.toInt ≤ (136 : Int) → (0 : Int) ≤ x3.toInt → x3.toInt ≤ (5 : Int) → 5 - x3.toInt < (n : Int) → AW ad E0 μX12_keep (d + 1) (fun r m' => WT m' ∧ Fx (RS [20, 40]) m0 m' ∧ ∃ v : Int32, r = some (.int v) ∧ (0 : Int) ≤ v.toInt ∧ v.toInt ≤ 1 ∧ ((v.toInt = 1 ∧ 0 ≤ x1.toInt ∧ x1.toInt < 2) ∨ (v.toInt = 0 ∧ (x1.toInt < 0 ∨ 2 ≤ x1.toInt)))) 92 [(0, .ref (ad 187)), (2, .int x2), (3, .int x3)] [] m) := by
  intro n
  induction n with
  | zero =>
    refine ⟨?_, ?_⟩ <;> intros <;> exfalso <;> omega
  | succ n ih =>
    refine ⟨?_, ?_⟩
    · intro m x2 x3 w f j1 j2 j3 j4 hn
      refine g_X12_keep_53  ?_
      refine ⟨?_, ?_⟩
      · intro c1
        have k2 := y_lel (n := 8) rfl c1
        have t3 := ti_addc (x := x2) (y := (8 : Int32)) (c := 8) rfl (by omega)
        exact ih.2 _ _ _ w f (by show (65 : Int) ≤ ((x2 + (8 : Int32))).toInt; omega) (by show ((x2 + (8 : Int32))).toInt ≤ (136 : Int); omega) (by show (0 : Int) ≤ (0 : Int); omega) (by show (0 : Int) ≤ (5 : Int); omega) (by show 5 - (0 : Int) < _; omega)
      · intro c4
        have k5 := y_nlel (n := 8) rfl c4
        refine ⟨?_, ?_⟩
        · exact vpi (by omega) (by omega)
        · refine ⟨?_, ?_⟩
          · intro c6
            have k7 := y_eqr (n := 0) rfl c6
            refine ⟨?_, ?_⟩
            · have t8 := ti_add (x := x2) (y := x3) (by omega)
              exact vpi (by omega) (by omega)
            · have w9 : WT (uI m 214 ((x2 + x3).toNatClampNeg) (0 : Int32)) := w.n rfl
              have f9 : Fx (RS [20, 40]) m0 (uI m 214 ((x2 + x3).toNatClampNeg) (0 : Int32)) := f.i rfl
              have t10 := ti_addc (x := x3) (y := (1 : Int32)) (c := 1) rfl (by omega)
              exact ih.1 _ _ _ w9 f9 (by show (57 : Int) ≤ (x2).toInt; omega) (by show (x2).toInt ≤ (128 : Int); omega) (by show (0 : Int) ≤ ((x3 + (1 : Int32))).toInt; omega) (by show ((x3 + (1 : Int32))).toInt ≤ (8 : Int); omega) (by show (8 - ((x3 + (1 : Int32))).toInt) + 100 < _; omega)
          · intro c11
            have k12 := y_ner (n := 0) rfl c11
            refine ⟨?_, ?_⟩
            · have t13 := ti_add (x := x2) (y := x3) (by omega)
              exact vpi (by omega) (by omega)
            · have w14 : WT (uI m 214 ((x2 + x3).toNatClampNeg) (1 : Int32)) := w.n rfl
              have f14 : Fx (RS [20, 40]) m0 (uI m 214 ((x2 + x3).toNatClampNeg) (1 : Int32)) := f.i rfl
              have t15 := ti_addc (x := x3) (y := (1 : Int32)) (c := 1) rfl (by omega)
              exact ih.1 _ _ _ w14 f14 (by show (57 : Int) ≤ (x2).toInt; omega) (by show (x2).toInt ≤ (128 : Int); omega) (by show (0 : Int) ≤ ((x3 + (1 : Int32))).toInt; omega) (by show ((x3 + (1 : Int32))).toInt ≤ (8 : Int); omega) (by show (8 - ((x3 + (1 : Int32))).toInt) + 100 < _; omega)
    · intro m x2 x3 w f j1 j2 j3 j4 hn
      refine g_X12_keep_92  ?_
      refine ⟨?_, ?_⟩
      · intro c1
        have k2 := y_lel (n := 5) rfl c1
        refine ⟨?_, ?_⟩
        · have t3 := ti_addc (x := x2) (y := (5 : Int32)) (c := 5) rfl (by omega)
          exact vpi (by omega) (by omega)
        · have w4 : WT (uI m 214 ((x2 + (5 : Int32)).toNatClampNeg) (m.1 187 12)) := w.n rfl
          have f4 : Fx (RS [20, 40]) m0 (uI m 214 ((x2 + (5 : Int32)).toNatClampNeg) (m.1 187 12)) := f.i rfl
          exact ⟨w4, f4, _, rfl, (by show (0 : Int) ≤ (1 : Int); omega), (by show (1 : Int) ≤ (1 : Int); omega), (by show ((1 : Int) = 1 ∧ 0 ≤ x1.toInt ∧ x1.toInt < 2) ∨ ((1 : Int) = 0 ∧ (x1.toInt < 0 ∨ 2 ≤ x1.toInt)); omega)⟩
      · intro c5
        have k6 := y_nlel (n := 5) rfl c5
        refine ⟨?_, ?_⟩
        · exact vpi (by omega) (by omega)
        · refine ⟨?_, ?_⟩
          · have t7 := ti_add (x := x2) (y := x3) (by omega)
            exact vpi (by omega) (by omega)
          · have w8 : WT (uI m 214 ((x2 + x3).toNatClampNeg) (m.1 193 x3.toNatClampNeg)) := w.n rfl
            have f8 : Fx (RS [20, 40]) m0 (uI m 214 ((x2 + x3).toNatClampNeg) (m.1 193 x3.toNatClampNeg)) := f.i rfl
            have t9 := ti_addc (x := x3) (y := (1 : Int32)) (c := 1) rfl (by omega)
            exact ih.2 _ _ _ w8 f8 (by show (65 : Int) ≤ (x2).toInt; omega) (by show (x2).toInt ≤ (136 : Int); omega) (by show (0 : Int) ≤ ((x3 + (1 : Int32))).toInt; omega) (by show ((x3 + (1 : Int32))).toInt ≤ (5 : Int); omega) (by show 5 - ((x3 + (1 : Int32))).toInt < _; omega)
set_option maxHeartbeats 4000000 in
theorem s_X12_keep {ad : Nat → Nat} {d : Nat} {m : Wm} {x1 : Int32} (w : WT m) : Ct ad μX12_keep (d + 1) [.ref (ad 187), .int x1] m (fun r m' => WT m' ∧ Fx (RS [20, 40]) m m' ∧ ∃ v : Int32, r = some (.int v) ∧ (0 : Int) ≤ v.toInt ∧ v.toInt ≤ 1 ∧ ((v.toInt = 1 ∧ 0 ≤ x1.toInt ∧ x1.toInt < 2) ∨ (v.toInt = 0 ∧ (x1.toInt < 0 ∨ 2 ≤ x1.toInt)))) := by
  have f : Fx (RS [20, 40]) m m := Fx.rf
  refine v_X12_keep  ?_
  have w1 : WT (uI m 187 17 (0 : Int32)) := w.n rfl
  have f1 : Fx (RS [20, 40]) m (uI m 187 17 (0 : Int32)) := f.i rfl
  refine (s_X12_in (x := x1) (lo := (0 : Int32)) (hi := (1 : Int32)) w1 rfl rfl).to ?_
  rintro _ m1 ⟨w_m1, g2, v2, rfl, p4, p5, p3⟩
  have f_m1 : Fx (RS [20, 40]) m m1 := f1.tr g2 (RS_sub rfl)
  have p6 : (v2.toInt = 0 ∧ ((x1).toInt < (0 : Int) ∨ (1 : Int) < (x1).toInt)) ∨ (v2.toInt = 1 ∧ (0 : Int) ≤ (x1).toInt ∧ (x1).toInt ≤ (1 : Int)) := p3
  clear p3
  have e7 : (m1.1 187 1).toInt = ((m.1 187 1)).toInt := congrArg _ (g2.at (a := 187) (k := 1) (by decide))
  have e8 : (m1.1 187 0).toInt = ((m.1 187 0)).toInt := congrArg _ (g2.at (a := 187) (k := 0) (by decide))
  refine ⟨v2, rfl, ?_⟩
  refine ⟨?_, ?_⟩
  · intro c9
    have k10 := y_ner (n := 0) rfl c9
    refine ⟨?_, ?_⟩
    · exact vpi (by omega) (by omega)
    · refine ⟨?_, ?_⟩
      · exact vpi (by omega) (by omega)
      · have w11 : WT (uI m1 215 x1.toNatClampNeg (vp_nar .boolean (1 : Int32))) := w_m1.n rfl
        have f11 : Fx (RS [20, 40]) m (uI m1 215 x1.toNatClampNeg (vp_nar .boolean (1 : Int32))) := f_m1.i rfl
        have w12 : WT (uI (uI m1 215 x1.toNatClampNeg (vp_nar .boolean (1 : Int32))) 216 x1.toNatClampNeg ((uI m1 215 x1.toNatClampNeg (vp_nar .boolean (1 : Int32))).1 187 53)) := w11.n rfl
        have f12 : Fx (RS [20, 40]) m (uI (uI m1 215 x1.toNatClampNeg (vp_nar .boolean (1 : Int32))) 216 x1.toNatClampNeg ((uI m1 215 x1.toNatClampNeg (vp_nar .boolean (1 : Int32))).1 187 53)) := f11.i rfl
        have t13 := ti_mulc (c := 71) (y := (71 : Int32)) (x := x1) rfl (by omega)
        refine (s_X12_lay_214 w12 (by show (0 : Int) ≤ (((71 : Int32) * x1)).toInt; omega) (by show (((71 : Int32) * x1)).toInt ≤ (71 : Int); omega)).to ?_
        rintro _ m3 ⟨w_m3, g14, rfl⟩
        have f_m3 : Fx (RS [20, 40]) m m3 := f12.tr g14 (RS_sub rfl)
        have e15 : (m3.1 187 1).toInt = ((m1.1 187 1)).toInt := congrArg _ (g14.at (a := 187) (k := 1) (by decide))
        have e16 : (m3.1 187 0).toInt = ((m1.1 187 0)).toInt := congrArg _ (g14.at (a := 187) (k := 0) (by decide))
        refine ⟨rfl, ?_⟩
        have t17 := ti_addc (x := ((71 : Int32) * x1)) (y := (57 : Int32)) (c := 57) rfl (by omega)
        exact (l_X12_keep (m0 := m) (x1 := x1) (by omega) (by omega) 1000000).1 _ _ _ w_m3 f_m3 (by show (57 : Int) ≤ ((((71 : Int32) * x1) + (57 : Int32))).toInt; omega) (by show ((((71 : Int32) * x1) + (57 : Int32))).toInt ≤ (128 : Int); omega) (by show (0 : Int) ≤ (0 : Int); omega) (by show (0 : Int) ≤ (8 : Int); omega) (by show (8 - (0 : Int)) + 100 < _; omega)
  · intro c18
    have k19 := y_eqr (n := 0) rfl c18
    exact ⟨w_m1, f_m1, _, rfl, (by show (0 : Int) ≤ (0 : Int); omega), (by show (0 : Int) ≤ (1 : Int); omega), (by show ((0 : Int) = 1 ∧ 0 ≤ x1.toInt ∧ x1.toInt < 2) ∨ ((0 : Int) = 0 ∧ (x1.toInt < 0 ∨ 2 ≤ x1.toInt)); omega)⟩
set_option maxHeartbeats 4000000 in
theorem l_X12_again {ad : Nat → Nat} {d : Nat} {m0 : Wm}  : ∀ n : Nat, (∀ (m : Wm) (x2 x3 : Int32), WT m → Fx (RS [20, 24, 29, 46, 47, 49, 52]) m0 m → (57 : Int) ≤ x2.toInt → x2.toInt ≤ (128 : Int) → (0 : Int) ≤ x3.toInt → x3.toInt ≤ (8 : Int) → ((m.1 187 11).toInt = (m0.1 187 11).toInt) → ((m.1 187 10).toInt = (m0.1 187 10).toInt) → (8 - x3.toInt) + 100 < (n : Int) → AW ad E0 μX12_again (d + 1) (fun r m' => WT m' ∧ Fx (RS [20, 24, 29, 46, 47, 49, 52]) m0 m' ∧ ∃ v : Int32, r = some (.int v) ∧ (0 : Int) ≤ v.toInt ∧ v.toInt ≤ 1 ∧ ((m'.1 187 11).toInt = (m0.1 187 11).toInt) ∧ ((m'.1 187 10).toInt = (m0.1 187 10).toInt)) 58 [(0, .ref (ad 187)), (2, .int x2), (3, .int x3)] [] m) ∧ (∀ (m : Wm) (x2 x3 : Int32), WT m → Fx (RS [20, 24, 29, 46, 47, 49, 52]) m0 m → (65 : Int) ≤ x2.toInt → x2.toInt ≤ (136 : Int) → (0 : Int) ≤ x3.toInt → x3.toInt ≤ (5 : Int) → ((m.1 187 11).toInt = (m0.1 187 11).toInt) → ((m.1 187 10).toInt = (m0.1 187 10).toInt) → 5 - x3.toInt < (n : Int) → AW ad E0 μX12_again (d + 1) (fun r m' => WT m' ∧ Fx (RS [20, 24, 29, 46, 47, 49, 52]) m0 m' ∧ ∃ v : Int32, r = some (.int v) ∧ (0 : Int) ≤ v.toInt ∧ v.toInt ≤ 1 ∧ ((m'.1 187 11).toInt = (m0.1 187 11).toInt) ∧ ((m'.1 187 10).toInt = (m0.1 187 10).toInt)) 98 [(0, .ref (ad 187)), (2, .int x2), (3, .int x3)] [] m) := by
  intro n
  induction n with
  | zero =>
    refine ⟨?_, ?_⟩ <;> intros <;> exfalso <;> omega
  | succ n ih =>
    refine ⟨?_, ?_⟩
    · intro m x2 x3 w f j1 j2 j3 j4 j5 j6 hn
      refine g_X12_again_58  ?_
      refine ⟨?_, ?_⟩
      · intro c1
        have k2 := y_lel (n := 8) rfl c1
        have t3 := ti_addc (x := x2) (y := (8 : Int32)) (c := 8) rfl (by omega)
        have r4 := w.at (a := 187) (k := 11) rfl
        have r5 := w.at (a := 187) (k := 10) rfl
        exact ih.2 _ _ _ w f (by show (65 : Int) ≤ ((x2 + (8 : Int32))).toInt; omega) (by show ((x2 + (8 : Int32))).toInt ≤ (136 : Int); omega) (by show (0 : Int) ≤ (0 : Int); omega) (by show (0 : Int) ≤ (5 : Int); omega) (by show ((m.1 187 11)).toInt = (m0.1 187 11).toInt; omega) (by show ((m.1 187 10)).toInt = (m0.1 187 10).toInt; omega) (by show 5 - (0 : Int) < _; omega)
      · intro c6
        have k7 := y_nlel (n := 8) rfl c6
        refine ⟨?_, ?_⟩
        · have t8 := ti_add (x := x2) (y := x3) (by omega)
          exact vpi (by omega) (by omega)
        · refine ⟨?_, ?_⟩
          · intro c9
            have k10 := y_ner (n := 1) rfl c9
            refine ⟨?_, ?_⟩
            · exact vpi (by omega) (by omega)
            · have w11 : WT (uI m 189 x3.toNatClampNeg (vp_nar .boolean (0 : Int32))) := w.n rfl
              have f11 : Fx (RS [20, 24, 29, 46, 47, 49, 52]) m0 (uI m 189 x3.toNatClampNeg (vp_nar .boolean (0 : Int32))) := f.i rfl
              have t12 := ti_addc (x := x3) (y := (1 : Int32)) (c := 1) rfl (by omega)
              have r13 := w.at (a := 187) (k := 11) rfl
              have r14 := w.at (a := 187) (k := 10) rfl
              exact ih.1 _ _ _ w11 f11 (by show (57 : Int) ≤ (x2).toInt; omega) (by show (x2).toInt ≤ (128 : Int); omega) (by show (0 : Int) ≤ ((x3 + (1 : Int32))).toInt; omega) (by show ((x3 + (1 : Int32))).toInt ≤ (8 : Int); omega) (by show ((m.1 187 11)).toInt = (m0.1 187 11).toInt; omega) (by show ((m.1 187 10)).toInt = (m0.1 187 10).toInt; omega) (by show (8 - ((x3 + (1 : Int32))).toInt) + 100 < _; omega)
          · intro c15
            have k16 := y_eqr (n := 1) rfl c15
            refine ⟨?_, ?_⟩
            · exact vpi (by omega) (by omega)
            · have w17 : WT (uI m 189 x3.toNatClampNeg (vp_nar .boolean (1 : Int32))) := w.n rfl
              have f17 : Fx (RS [20, 24, 29, 46, 47, 49, 52]) m0 (uI m 189 x3.toNatClampNeg (vp_nar .boolean (1 : Int32))) := f.i rfl
              have t18 := ti_addc (x := x3) (y := (1 : Int32)) (c := 1) rfl (by omega)
              have r19 := w.at (a := 187) (k := 11) rfl
              have r20 := w.at (a := 187) (k := 10) rfl
              exact ih.1 _ _ _ w17 f17 (by show (57 : Int) ≤ (x2).toInt; omega) (by show (x2).toInt ≤ (128 : Int); omega) (by show (0 : Int) ≤ ((x3 + (1 : Int32))).toInt; omega) (by show ((x3 + (1 : Int32))).toInt ≤ (8 : Int); omega) (by show ((m.1 187 11)).toInt = (m0.1 187 11).toInt; omega) (by show ((m.1 187 10)).toInt = (m0.1 187 10).toInt; omega) (by show (8 - ((x3 + (1 : Int32))).toInt) + 100 < _; omega)
    · intro m x2 x3 w f j1 j2 j3 j4 j5 j6 hn
      refine g_X12_again_98  ?_
      refine ⟨?_, ?_⟩
      · intro c1
        have k2 := y_lel (n := 5) rfl c1
        refine ⟨?_, ?_⟩
        · intro c3
          have r4 := w.at (a := 187) (k := 11) rfl
          have k5 := y_ner (n := 0) rfl c3
          refine ⟨?_, ?_⟩
          · have t6 := ti_addc (x := x2) (y := (5 : Int32)) (c := 5) rfl (by omega)
            exact vpi (by omega) (by omega)
          · refine ⟨?_, ?_⟩
            · first | assumption | (show ¬ (m.1 187 11) = (0 : Int32); exact y_nn (n := 0) rfl (by omega))
            · have w7 : WT (uI m 187 12 ((m.1 214 ((x2 + (5 : Int32)).toNatClampNeg)) - (((m.1 214 ((x2 + (5 : Int32)).toNatClampNeg)) / (m.1 187 11)) * (m.1 187 11)))) := w.n rfl
              have f7 : Fx (RS [20, 24, 29, 46, 47, 49, 52]) m0 (uI m 187 12 ((m.1 214 ((x2 + (5 : Int32)).toNatClampNeg)) - (((m.1 214 ((x2 + (5 : Int32)).toNatClampNeg)) / (m.1 187 11)) * (m.1 187 11)))) := f.i rfl
              have w8 : WT (uI (uI m 187 12 ((m.1 214 ((x2 + (5 : Int32)).toNatClampNeg)) - (((m.1 214 ((x2 + (5 : Int32)).toNatClampNeg)) / (m.1 187 11)) * (m.1 187 11)))) 187 30 (0 : Int32)) := w7.t rfl (by show (0 : Int) ≤ (0 : Int); omega) (by show (0 : Int) ≤ 20; omega)
              have f8 : Fx (RS [20, 24, 29, 46, 47, 49, 52]) m0 (uI (uI m 187 12 ((m.1 214 ((x2 + (5 : Int32)).toNatClampNeg)) - (((m.1 214 ((x2 + (5 : Int32)).toNatClampNeg)) / (m.1 187 11)) * (m.1 187 11)))) 187 30 (0 : Int32)) := f7.i rfl
              have r9 := w.at (a := 187) (k := 10) rfl
              exact ⟨w8, f8, _, rfl, (by show (0 : Int) ≤ (1 : Int); omega), (by show (1 : Int) ≤ (1 : Int); omega), (by show ((m.1 187 11)).toInt = (m0.1 187 11).toInt; omega), (by show ((m.1 187 10)).toInt = (m0.1 187 10).toInt; omega)⟩
        · intro c10
          have r11 := w.at (a := 187) (k := 11) rfl
          have k12 := y_eqr (n := 0) rfl c10
          have w13 : WT (uI m 187 12 (0 : Int32)) := w.n rfl
          have f13 : Fx (RS [20, 24, 29, 46, 47, 49, 52]) m0 (uI m 187 12 (0 : Int32)) := f.i rfl
          have w14 : WT (uI (uI m 187 12 (0 : Int32)) 187 30 (0 : Int32)) := w13.t rfl (by show (0 : Int) ≤ (0 : Int); omega) (by show (0 : Int) ≤ 20; omega)
          have f14 : Fx (RS [20, 24, 29, 46, 47, 49, 52]) m0 (uI (uI m 187 12 (0 : Int32)) 187 30 (0 : Int32)) := f13.i rfl
          have r15 := w.at (a := 187) (k := 10) rfl
          exact ⟨w14, f14, _, rfl, (by show (0 : Int) ≤ (1 : Int); omega), (by show (1 : Int) ≤ (1 : Int); omega), (by show ((m.1 187 11)).toInt = (m0.1 187 11).toInt; omega), (by show ((m.1 187 10)).toInt = (m0.1 187 10).toInt; omega)⟩
      · intro c16
        have k17 := y_nlel (n := 5) rfl c16
        refine ⟨?_, ?_⟩
        · have t18 := ti_add (x := x2) (y := x3) (by omega)
          exact vpi (by omega) (by omega)
        · refine ⟨?_, ?_⟩
          · exact vpi (by omega) (by omega)
          · have w19 : WT (uI m 193 x3.toNatClampNeg (m.1 214 ((x2 + x3).toNatClampNeg))) := w.n rfl
            have f19 : Fx (RS [20, 24, 29, 46, 47, 49, 52]) m0 (uI m 193 x3.toNatClampNeg (m.1 214 ((x2 + x3).toNatClampNeg))) := f.i rfl
            have t20 := ti_addc (x := x3) (y := (1 : Int32)) (c := 1) rfl (by omega)
            have r21 := w.at (a := 187) (k := 11) rfl
            have r22 := w.at (a := 187) (k := 10) rfl
            exact ih.2 _ _ _ w19 f19 (by show (65 : Int) ≤ (x2).toInt; omega) (by show (x2).toInt ≤ (136 : Int); omega) (by show (0 : Int) ≤ ((x3 + (1 : Int32))).toInt; omega) (by show ((x3 + (1 : Int32))).toInt ≤ (5 : Int); omega) (by show ((m.1 187 11)).toInt = (m0.1 187 11).toInt; omega) (by show ((m.1 187 10)).toInt = (m0.1 187 10).toInt; omega) (by show 5 - ((x3 + (1 : Int32))).toInt < _; omega)
set_option maxHeartbeats 4000000 in
theorem s_X12_again {ad : Nat → Nat} {d : Nat} {m : Wm} {x1 : Int32} (w : WT m) : Ct ad μX12_again (d + 1) [.ref (ad 187), .int x1] m (fun r m' => WT m' ∧ Fx (RS [20, 24, 29, 46, 47, 49, 52]) m m' ∧ ∃ v : Int32, r = some (.int v) ∧ (0 : Int) ≤ v.toInt ∧ v.toInt ≤ 1 ∧ ((m'.1 187 11).toInt = (m.1 187 11).toInt) ∧ ((m'.1 187 10).toInt = (m.1 187 10).toInt)) := by
  have f : Fx (RS [20, 24, 29, 46, 47, 49, 52]) m m := Fx.rf
  refine v_X12_again  ?_
  have w1 : WT (uI m 187 17 (0 : Int32)) := w.n rfl
  have f1 : Fx (RS [20, 24, 29, 46, 47, 49, 52]) m (uI m 187 17 (0 : Int32)) := f.i rfl
  refine (s_X12_in (x := x1) (lo := (0 : Int32)) (hi := (1 : Int32)) w1 rfl rfl).to ?_
  rintro _ m1 ⟨w_m1, g2, v2, rfl, p4, p5, p3⟩
  have f_m1 : Fx (RS [20, 24, 29, 46, 47, 49, 52]) m m1 := f1.tr g2 (RS_sub rfl)
  have p6 : (v2.toInt = 0 ∧ ((x1).toInt < (0 : Int) ∨ (1 : Int) < (x1).toInt)) ∨ (v2.toInt = 1 ∧ (0 : Int) ≤ (x1).toInt ∧ (x1).toInt ≤ (1 : Int)) := p3
  clear p3
  have e7 : (m1.1 187 11).toInt = ((m.1 187 11)).toInt := congrArg _ (g2.at (a := 187) (k := 11) (by decide))
  have e8 : (m1.1 187 10).toInt = ((m.1 187 10)).toInt := congrArg _ (g2.at (a := 187) (k := 10) (by decide))
  have e9 : (m1.1 187 1).toInt = ((m.1 187 1)).toInt := congrArg _ (g2.at (a := 187) (k := 1) (by decide))
  have e10 : (m1.1 187 0).toInt = ((m.1 187 0)).toInt := congrArg _ (g2.at (a := 187) (k := 0) (by decide))
  refine ⟨v2, rfl, ?_⟩
  refine ⟨?_, ?_⟩
  · intro c11
    have k12 := y_eqr (n := 0) rfl c11
    have r13 := w_m1.at (a := 187) (k := 11) rfl
    have r14 := w_m1.at (a := 187) (k := 10) rfl
    exact ⟨w_m1, f_m1, _, rfl, (by show (0 : Int) ≤ (0 : Int); omega), (by show (0 : Int) ≤ (1 : Int); omega), (by show ((m1.1 187 11)).toInt = (m.1 187 11).toInt; omega), (by show ((m1.1 187 10)).toInt = (m.1 187 10).toInt; omega)⟩
  · intro c15
    have k16 := y_ner (n := 0) rfl c15
    refine ⟨?_, ?_⟩
    · exact vpi (by omega) (by omega)
    · refine ⟨?_, ?_⟩
      · intro c17
        have k18 := y_eqr (n := 0) rfl c17
        have r19 := w_m1.at (a := 187) (k := 11) rfl
        have r20 := w_m1.at (a := 187) (k := 10) rfl
        exact ⟨w_m1, f_m1, _, rfl, (by show (0 : Int) ≤ (0 : Int); omega), (by show (0 : Int) ≤ (1 : Int); omega), (by show ((m1.1 187 11)).toInt = (m.1 187 11).toInt; omega), (by show ((m1.1 187 10)).toInt = (m.1 187 10).toInt; omega)⟩
      · intro c21
        have k22 := y_ner (n := 0) rfl c21
        refine ⟨?_, ?_⟩
        · exact vpi (by omega) (by omega)
        · refine ⟨?_, ?_⟩
          · intro c23
            have k24 := z_eq c23
            have t25 := ti_mulc (c := 71) (y := (71 : Int32)) (x := x1) rfl (by omega)
            refine (s_X12_bring_214 w_m1 (by show (0 : Int) ≤ (((71 : Int32) * x1)).toInt; omega) (by show (((71 : Int32) * x1)).toInt ≤ (71 : Int); omega)).to ?_
            rintro _ m3 ⟨w_m3, g26, rfl⟩
            have f_m3 : Fx (RS [20, 24, 29, 46, 47, 49, 52]) m m3 := f_m1.tr g26 (RS_sub rfl)
            have e27 : (m3.1 187 11).toInt = ((m1.1 187 11)).toInt := congrArg _ (g26.at (a := 187) (k := 11) (by decide))
            have e28 : (m3.1 187 10).toInt = ((m1.1 187 10)).toInt := congrArg _ (g26.at (a := 187) (k := 10) (by decide))
            have e29 : (m3.1 187 1).toInt = ((m1.1 187 1)).toInt := congrArg _ (g26.at (a := 187) (k := 1) (by decide))
            have e30 : (m3.1 187 0).toInt = ((m1.1 187 0)).toInt := congrArg _ (g26.at (a := 187) (k := 0) (by decide))
            refine ⟨rfl, ?_⟩
            have t31 := ti_addc (x := ((71 : Int32) * x1)) (y := (57 : Int32)) (c := 57) rfl (by omega)
            have r32 := w_m3.at (a := 187) (k := 11) rfl
            have r33 := w_m3.at (a := 187) (k := 10) rfl
            exact (l_X12_again (m0 := m) 1000000).1 _ _ _ w_m3 f_m3 (by show (57 : Int) ≤ ((((71 : Int32) * x1) + (57 : Int32))).toInt; omega) (by show ((((71 : Int32) * x1) + (57 : Int32))).toInt ≤ (128 : Int); omega) (by show (0 : Int) ≤ (0 : Int); omega) (by show (0 : Int) ≤ (8 : Int); omega) (by show ((m3.1 187 11)).toInt = (m.1 187 11).toInt; omega) (by show ((m3.1 187 10)).toInt = (m.1 187 10).toInt; omega) (by show (8 - (0 : Int)) + 100 < _; omega)
          · intro c34
            have k35 := z_ne c34
            have r36 := w_m1.at (a := 187) (k := 11) rfl
            have r37 := w_m1.at (a := 187) (k := 10) rfl
            exact ⟨w_m1, f_m1, _, rfl, (by show (0 : Int) ≤ (0 : Int); omega), (by show (0 : Int) ≤ (1 : Int); omega), (by show ((m1.1 187 11)).toInt = (m.1 187 11).toInt; omega), (by show ((m1.1 187 10)).toInt = (m.1 187 10).toInt; omega)⟩
set_option maxHeartbeats 4000000 in
theorem s_X12_count {ad : Nat → Nat} {d : Nat} {m : Wm} {x1 : Int32} (w : WT m) : Ct ad μX12_count d [.ref (ad 187), .int x1] m (fun r m' => WT m' ∧ Fx (RS [20]) m m' ∧ ∃ v : Int32, r = some (.int v)) := by
  have f : Fx (RS [20]) m m := Fx.rf
  refine v_X12_count  ?_
  refine ⟨?_, ?_, ?_, ?_, ?_, ?_, ?_, ?_, ?_, ?_⟩
  · intro c1
    have k2 := y_eqr (n := 0) rfl c1
    have w3 : WT (uI m 187 17 (0 : Int32)) := w.n rfl
    have f3 : Fx (RS [20]) m (uI m 187 17 (0 : Int32)) := f.i rfl
    have r4 := w.at (a := 187) (k := 1) rfl
    exact ⟨w3, f3, _, rfl⟩
  · intro c5
    have k6 := y_eqr (n := 1) rfl c5
    have w7 : WT (uI m 187 17 (0 : Int32)) := w.n rfl
    have f7 : Fx (RS [20]) m (uI m 187 17 (0 : Int32)) := f.i rfl
    have r8 := w.at (a := 187) (k := 0) rfl
    exact ⟨w7, f7, _, rfl⟩
  · intro c9
    have k10 := y_eqr (n := 2) rfl c9
    have w11 : WT (uI m 187 17 (0 : Int32)) := w.n rfl
    have f11 : Fx (RS [20]) m (uI m 187 17 (0 : Int32)) := f.i rfl
    have r12 := w.at (a := 187) (k := 11) rfl
    exact ⟨w11, f11, _, rfl⟩
  · intro c13
    have k14 := y_eqr (n := 3) rfl c13
    have w15 : WT (uI m 187 17 (0 : Int32)) := w.n rfl
    have f15 : Fx (RS [20]) m (uI m 187 17 (0 : Int32)) := f.i rfl
    exact ⟨w15, f15, _, rfl⟩
  · intro c16
    have k17 := y_eqr (n := 4) rfl c16
    have w18 : WT (uI m 187 17 (0 : Int32)) := w.n rfl
    have f18 : Fx (RS [20]) m (uI m 187 17 (0 : Int32)) := f.i rfl
    have r19 := w.at (a := 187) (k := 30) rfl
    exact ⟨w18, f18, _, rfl⟩
  · intro c20
    have k21 := y_eqr (n := 5) rfl c20
    have w22 : WT (uI m 187 17 (0 : Int32)) := w.n rfl
    have f22 : Fx (RS [20]) m (uI m 187 17 (0 : Int32)) := f.i rfl
    have r23 := w.at (a := 187) (k := 52) rfl
    exact ⟨w22, f22, _, rfl⟩
  · intro c24
    have k25 := y_eqr (n := 6) rfl c24
    have w26 : WT (uI m 187 17 (0 : Int32)) := w.n rfl
    have f26 : Fx (RS [20]) m (uI m 187 17 (0 : Int32)) := f.i rfl
    have r27 := w.at (a := 187) (k := 16) rfl
    exact ⟨w26, f26, _, rfl⟩
  · intro c28
    have k29 := y_eqr (n := 7) rfl c28
    have w30 : WT (uI m 187 17 (0 : Int32)) := w.n rfl
    have f30 : Fx (RS [20]) m (uI m 187 17 (0 : Int32)) := f.i rfl
    have r31 := w.at (a := 187) (k := 14) rfl
    exact ⟨w30, f30, _, rfl⟩
  · intro c32
    have k33 := y_eqr (n := 8) rfl c32
    have w34 : WT (uI m 187 17 (0 : Int32)) := w.n rfl
    have f34 : Fx (RS [20]) m (uI m 187 17 (0 : Int32)) := f.i rfl
    have r35 := w.at (a := 187) (k := 10) rfl
    exact ⟨w34, f34, _, rfl⟩
  · intro c36
    have k37 := y_ner (n := 0) rfl c36
    intro c38
    have k39 := y_ner (n := 1) rfl c38
    intro c40
    have k41 := y_ner (n := 2) rfl c40
    intro c42
    have k43 := y_ner (n := 3) rfl c42
    intro c44
    have k45 := y_ner (n := 4) rfl c44
    intro c46
    have k47 := y_ner (n := 5) rfl c46
    intro c48
    have k49 := y_ner (n := 6) rfl c48
    intro c50
    have k51 := y_ner (n := 7) rfl c50
    intro c52
    have k53 := y_ner (n := 8) rfl c52
    have w54 : WT (uI m 187 17 (0 : Int32)) := w.n rfl
    have f54 : Fx (RS [20]) m (uI m 187 17 (0 : Int32)) := f.i rfl
    exact ⟨w54, f54, _, rfl⟩
set_option maxHeartbeats 4000000 in
theorem s_X12_row {ad : Nat → Nat} {d : Nat} {m : Wm} {x1 : Int32} (w : WT m) : Ct ad μX12_row (d + 1) [.ref (ad 187), .int x1] m (fun r m' => WT m' ∧ Fx (RS [20]) m m' ∧ ∃ v : Int64, r = some (.long v)) := by
  have f : Fx (RS [20]) m m := Fx.rf
  refine v_X12_row  ?_
  have w1 : WT (uI m 187 17 (0 : Int32)) := w.n rfl
  have f1 : Fx (RS [20]) m (uI m 187 17 (0 : Int32)) := f.i rfl
  have r2 := w.at (a := 187) (k := 16) rfl
  have t3 := ti_subc (x := (m.1 187 16)) (y := (1 : Int32)) (c := 1) rfl (by omega)
  refine (s_X12_in (x := x1) (lo := (0 : Int32)) (hi := ((m.1 187 16) - (1 : Int32))) w1 rfl rfl).to ?_
  rintro _ m1 ⟨w_m1, g4, v2, rfl, p6, p7, p5⟩
  have f_m1 : Fx (RS [20]) m m1 := f1.tr g4 (RS_sub rfl)
  have p8 : (v2.toInt = 0 ∧ ((x1).toInt < (0 : Int) ∨ (((m.1 187 16) - (1 : Int32))).toInt < (x1).toInt)) ∨ (v2.toInt = 1 ∧ (0 : Int) ≤ (x1).toInt ∧ (x1).toInt ≤ (((m.1 187 16) - (1 : Int32))).toInt) := p5
  clear p5
  have e9 : (m1.1 187 1).toInt = ((m.1 187 1)).toInt := congrArg _ (g4.at (a := 187) (k := 1) (by decide))
  have e10 : (m1.1 187 0).toInt = ((m.1 187 0)).toInt := congrArg _ (g4.at (a := 187) (k := 0) (by decide))
  refine ⟨v2, rfl, ?_⟩
  refine ⟨?_, ?_⟩
  · intro c11
    have k12 := y_eqr (n := 0) rfl c11
    refine (s_X12_lost w_m1).to ?_
    rintro _ m3 ⟨w_m3, g13, v4, rfl⟩
    have f_m3 : Fx (RS [20]) m m3 := f_m1.tr g13 (RS_sub rfl)
    have e14 : (m3.1 187 1).toInt = ((m1.1 187 1)).toInt := congrArg _ (g13.at (a := 187) (k := 1) (by decide))
    have e15 : (m3.1 187 0).toInt = ((m1.1 187 0)).toInt := congrArg _ (g13.at (a := 187) (k := 0) (by decide))
    refine ⟨v4, rfl, ?_⟩
    exact ⟨w_m3, f_m3, _, rfl⟩
  · intro c16
    have k17 := y_ner (n := 0) rfl c16
    refine ⟨?_, ?_⟩
    · exact vpi (by omega) (by omega)
    · exact ⟨w_m1, f_m1, _, rfl⟩
