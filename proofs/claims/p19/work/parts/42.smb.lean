/-! SAFETY OF THE MODEL, BY PROGRAM (winner .. goGame) -/
set_option maxHeartbeats 4000000 in
theorem s_X12_winner {ad : Nat → Nat} {d : Nat} {m : Wm} {x1 x2 x3 : Int32} (w : WT m) (i1 : (0 : Int) ≤ x1.toInt) (i2 : x1.toInt ≤ (7 : Int)) (i3 : (0 : Int) ≤ x2.toInt) (i4 : x2.toInt ≤ (7 : Int)) : Ct ad μX12_winner (d + 169) [.ref (ad 187), .int x1, .int x2, .int x3] m (fun r m' => WT m' ∧ Fx (RS [22, 28]) m m' ∧ ∃ v : Int32, r = some (.int v) ∧ (0 : Int) ≤ v.toInt ∧ v.toInt ≤ 2) := by
  have f : Fx (RS [22, 28]) m m := Fx.rf
  refine v_X12_winner  ?_
  refine ⟨?_, ?_⟩
  · intro c1
    have k2 := y_ner (n := 1) rfl c1
    refine ⟨?_, ?_⟩
    · intro c3
      have k4 := y_ner (n := 2) rfl c3
      refine ⟨?_, ?_⟩
      · intro c5
        have k6 := y_ner (n := 3) rfl c5
        refine (s_X12_power w (by show (0 : Int) ≤ (x1).toInt; omega) (by show (x1).toInt ≤ (7 : Int); omega)).to ?_
        rintro _ m1 ⟨w_m1, g7, v2, rfl⟩
        have f_m1 : Fx (RS [22, 28]) m m1 := f.tr g7 (RS_sub rfl)
        have e8 : (m1.1 187 1).toInt = ((m.1 187 1)).toInt := congrArg _ (g7.at (a := 187) (k := 1) (by decide))
        have e9 : (m1.1 187 0).toInt = ((m.1 187 0)).toInt := congrArg _ (g7.at (a := 187) (k := 0) (by decide))
        refine ⟨v2, rfl, ?_⟩
        refine (s_X12_power w_m1 (by show (0 : Int) ≤ (x2).toInt; omega) (by show (x2).toInt ≤ (7 : Int); omega)).to ?_
        rintro _ m3 ⟨w_m3, g10, v4, rfl⟩
        have f_m3 : Fx (RS [22, 28]) m m3 := f_m1.tr g10 (RS_sub rfl)
        have e11 : (m3.1 187 1).toInt = ((m1.1 187 1)).toInt := congrArg _ (g10.at (a := 187) (k := 1) (by decide))
        have e12 : (m3.1 187 0).toInt = ((m1.1 187 0)).toInt := congrArg _ (g10.at (a := 187) (k := 0) (by decide))
        refine ⟨v4, rfl, ?_⟩
        refine ⟨?_, ?_⟩
        · intro c13
          have k14 := z_le c13
          refine ⟨?_, ?_⟩
          · intro c15
            have k16 := z_le c15
            exact ⟨w_m3, f_m3, _, rfl, (by show (0 : Int) ≤ (2 : Int); omega), (by show (2 : Int) ≤ (2 : Int); omega)⟩
          · intro c17
            have k18 := z_nle c17
            exact ⟨w_m3, f_m3, _, rfl, (by show (0 : Int) ≤ (1 : Int); omega), (by show (1 : Int) ≤ (2 : Int); omega)⟩
        · intro c19
          have k20 := z_nle c19
          exact ⟨w_m3, f_m3, _, rfl, (by show (0 : Int) ≤ (0 : Int); omega), (by show (0 : Int) ≤ (2 : Int); omega)⟩
      · intro c21
        have k22 := y_eqr (n := 3) rfl c21
        exact ⟨w, f, _, rfl, (by show (0 : Int) ≤ (2 : Int); omega), (by show (2 : Int) ≤ (2 : Int); omega)⟩
    · intro c23
      have k24 := y_eqr (n := 2) rfl c23
      exact ⟨w, f, _, rfl, (by show (0 : Int) ≤ (0 : Int); omega), (by show (0 : Int) ≤ (2 : Int); omega)⟩
  · intro c25
    have k26 := y_eqr (n := 1) rfl c25
    exact ⟨w, f, _, rfl, (by show (0 : Int) ≤ (1 : Int); omega), (by show (1 : Int) ≤ (2 : Int); omega)⟩
set_option maxHeartbeats 4000000 in
theorem l_X12_artOf {ad : Nat → Nat} {d : Nat} {m0 : Wm}  : ∀ n : Nat, (∀ (m : Wm) (x1 x2 x3 x4 x5 : Int32), WT m → Fx (RS []) m0 m → (0 : Int) ≤ x1.toInt → x1.toInt ≤ (7 : Int) → (0 : Int) ≤ x2.toInt → x2.toInt ≤ (7 : Int) → (-1 : Int) ≤ x3.toInt → x3.toInt ≤ (3 : Int) → (0 : Int) ≤ x5.toInt → x5.toInt ≤ (4 : Int) → 4 - x5.toInt < (n : Int) → AW ad E0 μX12_artOf d (fun r m' => WT m' ∧ Fx (RS []) m0 m' ∧ ∃ v : Int32, r = some (.int v) ∧ (-1 : Int) ≤ v.toInt ∧ v.toInt ≤ 3) 8 [(0, .ref (ad 187)), (1, .int x1), (2, .int x2), (3, .int x3), (4, .int x4), (5, .int x5)] [] m) := by
  intro n
  induction n with
  | zero =>
    intros
    exfalso
    omega
  | succ n ih =>
    intro m x1 x2 x3 x4 x5 w f j1 j2 j3 j4 j5 j6 j7 j8 hn
    refine g_X12_artOf_8  ?_
    refine ⟨?_, ?_⟩
    · intro c1
      have r2 := w.at (a := 187) (k := 0) rfl
      have k3 := z_le c1
      exact ⟨w, f, _, rfl, (by show (-1 : Int) ≤ (x3).toInt; omega), (by show (x3).toInt ≤ (3 : Int); omega)⟩
    · intro c4
      have r5 := w.at (a := 187) (k := 0) rfl
      have k6 := z_nle c4
      refine ⟨?_, ?_⟩
      · have t7 := ti_mulc (c := 4) (y := (4 : Int32)) (x := x1) rfl (by omega)
        have t8 := ti_add (x := ((4 : Int32) * x1)) (y := x5) (by omega)
        exact vpi (by omega) (by omega)
      · refine ⟨?_, ?_⟩
        · have t9 := ti_mulc (c := 4) (y := (4 : Int32)) (x := x2) rfl (by omega)
          have t10 := ti_add (x := ((4 : Int32) * x2)) (y := x5) (by omega)
          exact vpi (by omega) (by omega)
        · refine ⟨?_, ?_⟩
          · intro c11
            have k12 := z_lt c11
            have t13 := ti_addc (x := x5) (y := (1 : Int32)) (c := 1) rfl (by omega)
            exact ih _ _ _ _ _ _ w f (by show (0 : Int) ≤ (x1).toInt; omega) (by show (x1).toInt ≤ (7 : Int); omega) (by show (0 : Int) ≤ (x2).toInt; omega) (by show (x2).toInt ≤ (7 : Int); omega) (by show (-1 : Int) ≤ (x5).toInt; omega) (by show (x5).toInt ≤ (3 : Int); omega) (by show (0 : Int) ≤ ((x5 + (1 : Int32))).toInt; omega) (by show ((x5 + (1 : Int32))).toInt ≤ (4 : Int); omega) (by show 4 - ((x5 + (1 : Int32))).toInt < _; omega)
          · intro c14
            have k15 := z_nlt c14
            have t16 := ti_addc (x := x5) (y := (1 : Int32)) (c := 1) rfl (by omega)
            exact ih _ _ _ _ _ _ w f (by show (0 : Int) ≤ (x1).toInt; omega) (by show (x1).toInt ≤ (7 : Int); omega) (by show (0 : Int) ≤ (x2).toInt; omega) (by show (x2).toInt ≤ (7 : Int); omega) (by show (-1 : Int) ≤ (x3).toInt; omega) (by show (x3).toInt ≤ (3 : Int); omega) (by show (0 : Int) ≤ ((x5 + (1 : Int32))).toInt; omega) (by show ((x5 + (1 : Int32))).toInt ≤ (4 : Int); omega) (by show 4 - ((x5 + (1 : Int32))).toInt < _; omega)
set_option maxHeartbeats 4000000 in
theorem s_X12_artOf {ad : Nat → Nat} {d : Nat} {m : Wm} {x1 x2 : Int32} (w : WT m) (i1 : (0 : Int) ≤ x1.toInt) (i2 : x1.toInt ≤ (7 : Int)) (i3 : (0 : Int) ≤ x2.toInt) (i4 : x2.toInt ≤ (7 : Int)) : Ct ad μX12_artOf d [.ref (ad 187), .int x1, .int x2] m (fun r m' => WT m' ∧ Fx (RS []) m m' ∧ ∃ v : Int32, r = some (.int v) ∧ (-1 : Int) ≤ v.toInt ∧ v.toInt ≤ 3) := by
  have f : Fx (RS []) m m := Fx.rf
  refine v_X12_artOf  ?_
  exact (l_X12_artOf (m0 := m) 1000000) _ _ _ _ _ _ w f (by show (0 : Int) ≤ (x1).toInt; omega) (by show (x1).toInt ≤ (7 : Int); omega) (by show (0 : Int) ≤ (x2).toInt; omega) (by show (x2).toInt ≤ (7 : Int); omega) (by show (-1 : Int) ≤ (-1 : Int); omega) (by show (-1 : Int) ≤ (3 : Int); omega) (by show (0 : Int) ≤ (0 : Int); omega) (by show (0 : Int) ≤ (4 : Int); omega) (by show 4 - (0 : Int) < _; omega)
set_option maxHeartbeats 4000000 in
theorem s_X12_gainOf {ad : Nat → Nat} {d : Nat} {m : Wm} {x1 x2 x3 : Int32} (w : WT m) (i1 : (0 : Int) ≤ x1.toInt) (i2 : x1.toInt ≤ (7 : Int)) (i3 : (0 : Int) ≤ x2.toInt) (i4 : x2.toInt ≤ (7 : Int)) (i5 : (0 : Int) ≤ x3.toInt) (i6 : x3.toInt ≤ (3 : Int)) : Ct ad μX12_gainOf (d + 1) [.ref (ad 187), .int x1, .int x2, .int x3] m (fun r m' => WT m' ∧ Fx (RS []) m m' ∧ ∃ v : Int32, r = some (.int v)) := by
  have f : Fx (RS []) m m := Fx.rf
  refine v_X12_gainOf  ?_
  refine ⟨?_, ?_⟩
  · exact vpi (by omega) (by omega)
  · refine ⟨?_, ?_⟩
    · intro c1
      have k2 := y_eqr (n := 0) rfl c1
      refine ⟨?_, ?_⟩
      · have t3 := ti_mulc (c := 4) (y := (4 : Int32)) (x := x1) rfl (by omega)
        have t4 := ti_add (x := ((4 : Int32) * x1)) (y := x3) (by omega)
        exact vpi (by omega) (by omega)
      · refine ⟨?_, ?_⟩
        · have t5 := ti_mulc (c := 4) (y := (4 : Int32)) (x := x2) rfl (by omega)
          have t6 := ti_add (x := ((4 : Int32) * x2)) (y := x3) (by omega)
          exact vpi (by omega) (by omega)
        · have t7 := ti_ltv (a := ((m.1 188 ((((4 : Int32) * x1) + x3).toNatClampNeg)) - (m.1 188 ((((4 : Int32) * x2) + x3).toNatClampNeg)))) (b := (m.1 193 ((1 : Int32).toNatClampNeg))) (c := ((m.1 188 ((((4 : Int32) * x1) + x3).toNatClampNeg)) - (m.1 188 ((((4 : Int32) * x2) + x3).toNatClampNeg)))) (d := (m.1 193 ((1 : Int32).toNatClampNeg))) (A := ((m.1 188 ((((4 : Int32) * x1) + x3).toNatClampNeg)) - (m.1 188 ((((4 : Int32) * x2) + x3).toNatClampNeg))).toInt) (B := (m.1 193 ((1 : Int32).toNatClampNeg)).toInt) (C := ((m.1 188 ((((4 : Int32) * x1) + x3).toNatClampNeg)) - (m.1 188 ((((4 : Int32) * x2) + x3).toNatClampNeg))).toInt) (D := (m.1 193 ((1 : Int32).toNatClampNeg)).toInt) rfl rfl rfl rfl
          exact ⟨w, f, _, rfl⟩
    · intro c8
      have k9 := y_ner (n := 0) rfl c8
      exact ⟨w, f, _, rfl⟩
set_option maxHeartbeats 4000000 in
theorem s_X12_teach {ad : Nat → Nat} {d : Nat} {m : Wm} {x1 x2 : Int32} (w : WT m) (i1 : (0 : Int) ≤ x1.toInt) (i2 : x1.toInt ≤ (7 : Int)) (i3 : (0 : Int) ≤ x2.toInt) (i4 : x2.toInt ≤ (7 : Int)) : Ct ad μX12_teach (d + 2) [.ref (ad 187), .int x1, .int x2] m (fun r m' => WT m' ∧ Fx (RS [24]) m m' ∧ r = none) := by
  have f : Fx (RS [24]) m m := Fx.rf
  refine v_X12_teach  ?_
  refine (s_X12_artOf w (by show (0 : Int) ≤ (x1).toInt; omega) (by show (x1).toInt ≤ (7 : Int); omega) (by show (0 : Int) ≤ (x2).toInt; omega) (by show (x2).toInt ≤ (7 : Int); omega)).to ?_
  rintro _ m1 ⟨w_m1, g1, v2, rfl, p2, p3⟩
  have f_m1 : Fx (RS [24]) m m1 := f.tr g1 (RS_sub rfl)
  have e4 : (m1.1 187 1).toInt = ((m.1 187 1)).toInt := congrArg _ (g1.at (a := 187) (k := 1) (by decide))
  have e5 : (m1.1 187 0).toInt = ((m.1 187 0)).toInt := congrArg _ (g1.at (a := 187) (k := 0) (by decide))
  refine ⟨v2, rfl, ?_⟩
  refine ⟨?_, ?_⟩
  · intro c6
    have k7 := y_ner (n := -1) rfl c6
    refine (s_X12_gainOf w_m1 (by show (0 : Int) ≤ (x1).toInt; omega) (by show (x1).toInt ≤ (7 : Int); omega) (by show (0 : Int) ≤ (x2).toInt; omega) (by show (x2).toInt ≤ (7 : Int); omega) (by show (0 : Int) ≤ (v2).toInt; omega) (by show (v2).toInt ≤ (3 : Int); omega)).to ?_
    rintro _ m3 ⟨w_m3, g8, v4, rfl⟩
    have f_m3 : Fx (RS [24]) m m3 := f_m1.tr g8 (RS_sub rfl)
    have e9 : (m3.1 187 1).toInt = ((m1.1 187 1)).toInt := congrArg _ (g8.at (a := 187) (k := 1) (by decide))
    have e10 : (m3.1 187 0).toInt = ((m1.1 187 0)).toInt := congrArg _ (g8.at (a := 187) (k := 0) (by decide))
    refine ⟨v4, rfl, ?_⟩
    refine ⟨?_, ?_⟩
    · have t11 := ti_mulc (c := 4) (y := (4 : Int32)) (x := x2) rfl (by omega)
      have t12 := ti_add (x := ((4 : Int32) * x2)) (y := v2) (by omega)
      exact vpi (by omega) (by omega)
    · refine ⟨?_, ?_⟩
      · have t13 := ti_mulc (c := 4) (y := (4 : Int32)) (x := x2) rfl (by omega)
        have t14 := ti_add (x := ((4 : Int32) * x2)) (y := v2) (by omega)
        exact vpi (by omega) (by omega)
      · refine ⟨?_, ?_⟩
        · exact vpi (by omega) (by omega)
        · refine ⟨?_, ?_⟩
          · exact vpi (by omega) (by omega)
          · refine ⟨?_, ?_⟩
            · have t15 := ti_mulc (c := 4) (y := (4 : Int32)) (x := x1) rfl (by omega)
              have t16 := ti_add (x := ((4 : Int32) * x1)) (y := v2) (by omega)
              exact vpi (by omega) (by omega)
            · refine ⟨?_, ?_⟩
              · have t17 := ti_mulc (c := 4) (y := (4 : Int32)) (x := x1) rfl (by omega)
                have t18 := ti_add (x := ((4 : Int32) * x1)) (y := v2) (by omega)
                exact vpi (by omega) (by omega)
              · have w19 : WT (uI m3 188 ((((4 : Int32) * x2) + v2).toNatClampNeg) ((m3.1 188 ((((4 : Int32) * x2) + v2).toNatClampNeg)) + v4)) := w_m3.n rfl
                have f19 : Fx (RS [24]) m (uI m3 188 ((((4 : Int32) * x2) + v2).toNatClampNeg) ((m3.1 188 ((((4 : Int32) * x2) + v2).toNatClampNeg)) + v4)) := f_m3.i rfl
                have w20 : WT (uI (uI m3 188 ((((4 : Int32) * x2) + v2).toNatClampNeg) ((m3.1 188 ((((4 : Int32) * x2) + v2).toNatClampNeg)) + v4)) 191 x1.toNatClampNeg (((uI m3 188 ((((4 : Int32) * x2) + v2).toNatClampNeg) ((m3.1 188 ((((4 : Int32) * x2) + v2).toNatClampNeg)) + v4)).1 191 x1.toNatClampNeg) + v4)) := w19.n rfl
                have f20 : Fx (RS [24]) m (uI (uI m3 188 ((((4 : Int32) * x2) + v2).toNatClampNeg) ((m3.1 188 ((((4 : Int32) * x2) + v2).toNatClampNeg)) + v4)) 191 x1.toNatClampNeg (((uI m3 188 ((((4 : Int32) * x2) + v2).toNatClampNeg) ((m3.1 188 ((((4 : Int32) * x2) + v2).toNatClampNeg)) + v4)).1 191 x1.toNatClampNeg) + v4)) := f19.i rfl
                have w21 : WT (uI (uI (uI m3 188 ((((4 : Int32) * x2) + v2).toNatClampNeg) ((m3.1 188 ((((4 : Int32) * x2) + v2).toNatClampNeg)) + v4)) 191 x1.toNatClampNeg (((uI m3 188 ((((4 : Int32) * x2) + v2).toNatClampNeg) ((m3.1 188 ((((4 : Int32) * x2) + v2).toNatClampNeg)) + v4)).1 191 x1.toNatClampNeg) + v4)) 188 ((((4 : Int32) * x1) + v2).toNatClampNeg) (if (0 : Int32) < (if ((((uI (uI m3 188 ((((4 : Int32) * x2) + v2).toNatClampNeg) ((m3.1 188 ((((4 : Int32) * x2) + v2).toNatClampNeg)) + v4)) 191 x1.toNatClampNeg (((uI m3 188 ((((4 : Int32) * x2) + v2).toNatClampNeg) ((m3.1 188 ((((4 : Int32) * x2) + v2).toNatClampNeg)) + v4)).1 191 x1.toNatClampNeg) + v4)).1 188 ((((4 : Int32) * x1) + v2).toNatClampNeg)) + ((uI (uI m3 188 ((((4 : Int32) * x2) + v2).toNatClampNeg) ((m3.1 188 ((((4 : Int32) * x2) + v2).toNatClampNeg)) + v4)) 191 x1.toNatClampNeg (((uI m3 188 ((((4 : Int32) * x2) + v2).toNatClampNeg) ((m3.1 188 ((((4 : Int32) * x2) + v2).toNatClampNeg)) + v4)).1 191 x1.toNatClampNeg) + v4)).1 193 ((2 : Int32).toNatClampNeg))) - (1 : Int32)) < (7 : Int32) then ((((uI (uI m3 188 ((((4 : Int32) * x2) + v2).toNatClampNeg) ((m3.1 188 ((((4 : Int32) * x2) + v2).toNatClampNeg)) + v4)) 191 x1.toNatClampNeg (((uI m3 188 ((((4 : Int32) * x2) + v2).toNatClampNeg) ((m3.1 188 ((((4 : Int32) * x2) + v2).toNatClampNeg)) + v4)).1 191 x1.toNatClampNeg) + v4)).1 188 ((((4 : Int32) * x1) + v2).toNatClampNeg)) + ((uI (uI m3 188 ((((4 : Int32) * x2) + v2).toNatClampNeg) ((m3.1 188 ((((4 : Int32) * x2) + v2).toNatClampNeg)) + v4)) 191 x1.toNatClampNeg (((uI m3 188 ((((4 : Int32) * x2) + v2).toNatClampNeg) ((m3.1 188 ((((4 : Int32) * x2) + v2).toNatClampNeg)) + v4)).1 191 x1.toNatClampNeg) + v4)).1 193 ((2 : Int32).toNatClampNeg))) - (1 : Int32)) else (7 : Int32)) then (if ((((uI (uI m3 188 ((((4 : Int32) * x2) + v2).toNatClampNeg) ((m3.1 188 ((((4 : Int32) * x2) + v2).toNatClampNeg)) + v4)) 191 x1.toNatClampNeg (((uI m3 188 ((((4 : Int32) * x2) + v2).toNatClampNeg) ((m3.1 188 ((((4 : Int32) * x2) + v2).toNatClampNeg)) + v4)).1 191 x1.toNatClampNeg) + v4)).1 188 ((((4 : Int32) * x1) + v2).toNatClampNeg)) + ((uI (uI m3 188 ((((4 : Int32) * x2) + v2).toNatClampNeg) ((m3.1 188 ((((4 : Int32) * x2) + v2).toNatClampNeg)) + v4)) 191 x1.toNatClampNeg (((uI m3 188 ((((4 : Int32) * x2) + v2).toNatClampNeg) ((m3.1 188 ((((4 : Int32) * x2) + v2).toNatClampNeg)) + v4)).1 191 x1.toNatClampNeg) + v4)).1 193 ((2 : Int32).toNatClampNeg))) - (1 : Int32)) < (7 : Int32) then ((((uI (uI m3 188 ((((4 : Int32) * x2) + v2).toNatClampNeg) ((m3.1 188 ((((4 : Int32) * x2) + v2).toNatClampNeg)) + v4)) 191 x1.toNatClampNeg (((uI m3 188 ((((4 : Int32) * x2) + v2).toNatClampNeg) ((m3.1 188 ((((4 : Int32) * x2) + v2).toNatClampNeg)) + v4)).1 191 x1.toNatClampNeg) + v4)).1 188 ((((4 : Int32) * x1) + v2).toNatClampNeg)) + ((uI (uI m3 188 ((((4 : Int32) * x2) + v2).toNatClampNeg) ((m3.1 188 ((((4 : Int32) * x2) + v2).toNatClampNeg)) + v4)) 191 x1.toNatClampNeg (((uI m3 188 ((((4 : Int32) * x2) + v2).toNatClampNeg) ((m3.1 188 ((((4 : Int32) * x2) + v2).toNatClampNeg)) + v4)).1 191 x1.toNatClampNeg) + v4)).1 193 ((2 : Int32).toNatClampNeg))) - (1 : Int32)) else (7 : Int32)) else (0 : Int32))) := w20.n rfl
                have f21 : Fx (RS [24]) m (uI (uI (uI m3 188 ((((4 : Int32) * x2) + v2).toNatClampNeg) ((m3.1 188 ((((4 : Int32) * x2) + v2).toNatClampNeg)) + v4)) 191 x1.toNatClampNeg (((uI m3 188 ((((4 : Int32) * x2) + v2).toNatClampNeg) ((m3.1 188 ((((4 : Int32) * x2) + v2).toNatClampNeg)) + v4)).1 191 x1.toNatClampNeg) + v4)) 188 ((((4 : Int32) * x1) + v2).toNatClampNeg) (if (0 : Int32) < (if ((((uI (uI m3 188 ((((4 : Int32) * x2) + v2).toNatClampNeg) ((m3.1 188 ((((4 : Int32) * x2) + v2).toNatClampNeg)) + v4)) 191 x1.toNatClampNeg (((uI m3 188 ((((4 : Int32) * x2) + v2).toNatClampNeg) ((m3.1 188 ((((4 : Int32) * x2) + v2).toNatClampNeg)) + v4)).1 191 x1.toNatClampNeg) + v4)).1 188 ((((4 : Int32) * x1) + v2).toNatClampNeg)) + ((uI (uI m3 188 ((((4 : Int32) * x2) + v2).toNatClampNeg) ((m3.1 188 ((((4 : Int32) * x2) + v2).toNatClampNeg)) + v4)) 191 x1.toNatClampNeg (((uI m3 188 ((((4 : Int32) * x2) + v2).toNatClampNeg) ((m3.1 188 ((((4 : Int32) * x2) + v2).toNatClampNeg)) + v4)).1 191 x1.toNatClampNeg) + v4)).1 193 ((2 : Int32).toNatClampNeg))) - (1 : Int32)) < (7 : Int32) then ((((uI (uI m3 188 ((((4 : Int32) * x2) + v2).toNatClampNeg) ((m3.1 188 ((((4 : Int32) * x2) + v2).toNatClampNeg)) + v4)) 191 x1.toNatClampNeg (((uI m3 188 ((((4 : Int32) * x2) + v2).toNatClampNeg) ((m3.1 188 ((((4 : Int32) * x2) + v2).toNatClampNeg)) + v4)).1 191 x1.toNatClampNeg) + v4)).1 188 ((((4 : Int32) * x1) + v2).toNatClampNeg)) + ((uI (uI m3 188 ((((4 : Int32) * x2) + v2).toNatClampNeg) ((m3.1 188 ((((4 : Int32) * x2) + v2).toNatClampNeg)) + v4)) 191 x1.toNatClampNeg (((uI m3 188 ((((4 : Int32) * x2) + v2).toNatClampNeg) ((m3.1 188 ((((4 : Int32) * x2) + v2).toNatClampNeg)) + v4)).1 191 x1.toNatClampNeg) + v4)).1 193 ((2 : Int32).toNatClampNeg))) - (1 : Int32)) else (7 : Int32)) then (if ((((uI (uI m3 188 ((((4 : Int32) * x2) + v2).toNatClampNeg) ((m3.1 188 ((((4 : Int32) * x2) + v2).toNatClampNeg)) + v4)) 191 x1.toNatClampNeg (((uI m3 188 ((((4 : Int32) * x2) + v2).toNatClampNeg) ((m3.1 188 ((((4 : Int32) * x2) + v2).toNatClampNeg)) + v4)).1 191 x1.toNatClampNeg) + v4)).1 188 ((((4 : Int32) * x1) + v2).toNatClampNeg)) + ((uI (uI m3 188 ((((4 : Int32) * x2) + v2).toNatClampNeg) ((m3.1 188 ((((4 : Int32) * x2) + v2).toNatClampNeg)) + v4)) 191 x1.toNatClampNeg (((uI m3 188 ((((4 : Int32) * x2) + v2).toNatClampNeg) ((m3.1 188 ((((4 : Int32) * x2) + v2).toNatClampNeg)) + v4)).1 191 x1.toNatClampNeg) + v4)).1 193 ((2 : Int32).toNatClampNeg))) - (1 : Int32)) < (7 : Int32) then ((((uI (uI m3 188 ((((4 : Int32) * x2) + v2).toNatClampNeg) ((m3.1 188 ((((4 : Int32) * x2) + v2).toNatClampNeg)) + v4)) 191 x1.toNatClampNeg (((uI m3 188 ((((4 : Int32) * x2) + v2).toNatClampNeg) ((m3.1 188 ((((4 : Int32) * x2) + v2).toNatClampNeg)) + v4)).1 191 x1.toNatClampNeg) + v4)).1 188 ((((4 : Int32) * x1) + v2).toNatClampNeg)) + ((uI (uI m3 188 ((((4 : Int32) * x2) + v2).toNatClampNeg) ((m3.1 188 ((((4 : Int32) * x2) + v2).toNatClampNeg)) + v4)) 191 x1.toNatClampNeg (((uI m3 188 ((((4 : Int32) * x2) + v2).toNatClampNeg) ((m3.1 188 ((((4 : Int32) * x2) + v2).toNatClampNeg)) + v4)).1 191 x1.toNatClampNeg) + v4)).1 193 ((2 : Int32).toNatClampNeg))) - (1 : Int32)) else (7 : Int32)) else (0 : Int32))) := f20.i rfl
                exact ⟨w21, f21, rfl⟩
  · intro c22
    have k23 := y_eqr (n := -1) rfl c22
    exact ⟨w_m1, f_m1, rfl⟩
set_option maxHeartbeats 4000000 in
theorem s_X12_isThrown {ad : Nat → Nat} {d : Nat} {m : Wm} {x0 : Int32} (w : WT m) : Ct ad μX12_isThrown (d + 1) [.int x0] m (fun r m' => WT m' ∧ Fx (RS []) m m' ∧ ∃ v : Int32, r = some (.int v) ∧ (0 : Int) ≤ v.toInt ∧ v.toInt ≤ 1) := by
  have f : Fx (RS []) m m := Fx.rf
  refine v_X12_isThrown  ?_
  refine (s_X12_in (x := x0) (lo := (0 : Int32)) (hi := (3 : Int32)) w rfl rfl).to ?_
  rintro _ m1 ⟨w_m1, g1, v2, rfl, p3, p4, p2⟩
  have f_m1 : Fx (RS []) m m1 := f.tr g1 (RS_sub rfl)
  have p5 : (v2.toInt = 0 ∧ ((x0).toInt < (0 : Int) ∨ (3 : Int) < (x0).toInt)) ∨ (v2.toInt = 1 ∧ (0 : Int) ≤ (x0).toInt ∧ (x0).toInt ≤ (3 : Int)) := p2
  clear p2
  have e6 : (m1.1 187 1).toInt = ((m.1 187 1)).toInt := congrArg _ (g1.at (a := 187) (k := 1) (by decide))
  have e7 : (m1.1 187 0).toInt = ((m.1 187 0)).toInt := congrArg _ (g1.at (a := 187) (k := 0) (by decide))
  refine ⟨v2, rfl, ?_⟩
  refine ⟨?_, ?_⟩
  · exact bz_of (by omega) (by omega)
  · exact ⟨w_m1, f_m1, _, rfl, (by show (0 : Int) ≤ (v2).toInt; omega), (by show (v2).toInt ≤ (1 : Int); omega)⟩
set_option maxHeartbeats 4000000 in
theorem l_X12_game {ad : Nat → Nat} {d : Nat} {m0 : Wm}  : ∀ n : Nat, (∀ (m : Wm) (x1 x2 x4 s0 : Int32), WT m → Fx (RS [20, 22, 26, 28]) m0 m → (0 : Int) ≤ x1.toInt → x1.toInt ≤ (7 : Int) → (0 : Int) ≤ x2.toInt → x2.toInt ≤ (7 : Int) → ((m.1 187 16).toInt = 0) → 0 * x1.toInt + 4 < (n : Int) → AW ad E0 μX12_game (d + 170) (fun r m' => WT m' ∧ Fx (RS [20, 22, 26, 28]) m0 m' ∧ ∃ v : Int32, r = some (.int v)) 69 [(0, .ref (ad 187)), (1, .int x1), (2, .int x2), (4, .int x4)] [.int s0] m) ∧ (∀ (m : Wm) (x1 x2 x4 s0 : Int32), WT m → Fx (RS [20, 22, 26, 28]) m0 m → (0 : Int) ≤ x1.toInt → x1.toInt ≤ (7 : Int) → (0 : Int) ≤ x2.toInt → x2.toInt ≤ (7 : Int) → ((m.1 187 16).toInt = 0) → 0 * x1.toInt + 3 < (n : Int) → AW ad E0 μX12_game (d + 170) (fun r m' => WT m' ∧ Fx (RS [20, 22, 26, 28]) m0 m' ∧ ∃ v : Int32, r = some (.int v)) 92 [(0, .ref (ad 187)), (1, .int x1), (2, .int x2), (4, .int x4)] [.int s0] m) ∧ (∀ (m : Wm) (x4 x8 s0 : Int32), WT m → Fx (RS [20, 22, 26, 28]) m0 m → (0 : Int) ≤ x8.toInt → x8.toInt ≤ (7 : Int) → (0 : Int) ≤ s0.toInt → s0.toInt ≤ (7 : Int) → ((m.1 187 16).toInt = 0) → 0 * x8.toInt + 2 < (n : Int) → AW ad E0 μX12_game (d + 170) (fun r m' => WT m' ∧ Fx (RS [20, 22, 26, 28]) m0 m' ∧ ∃ v : Int32, r = some (.int v)) 116 [(0, .ref (ad 187)), (4, .int x4), (8, .int x8)] [.int s0] m) ∧ (∀ (m : Wm) (x4 x5 x6 : Int32), WT m → Fx (RS [20, 22, 26, 28]) m0 m → ((m.1 187 16).toInt = 0) → 0 * x4.toInt + 1 < (n : Int) → AW ad E0 μX12_game (d + 170) (fun r m' => WT m' ∧ Fx (RS [20, 22, 26, 28]) m0 m' ∧ ∃ v : Int32, r = some (.int v)) 150 [(0, .ref (ad 187)), (4, .int x4), (5, .int x5), (6, .int x6)] [] m) := by
  intro n
  induction n with
  | zero =>
    refine ⟨?_, ?_, ?_, ?_⟩ <;> intros <;> exfalso <;> omega
  | succ n ih =>
    refine ⟨?_, ?_, ?_, ?_⟩
    · intro m x1 x2 x4 s0 w f j1 j2 j3 j4 j5 hn
      refine g_X12_game_69  ?_
      refine ⟨?_, ?_⟩
      · intro c1
        have k2 := y_eqr (n := 1) rfl c1
        refine ⟨?_, ?_⟩
        · intro c3
          have k4 := y_ner (n := 0) rfl c3
          have r5 := w.at (a := 187) (k := 16) rfl
          exact ih.2.1 _ _ _ _ _ w f (by show (0 : Int) ≤ (x1).toInt; omega) (by show (x1).toInt ≤ (7 : Int); omega) (by show (0 : Int) ≤ (x2).toInt; omega) (by show (x2).toInt ≤ (7 : Int); omega) (by show ((m.1 187 16)).toInt = 0; omega) (by show 0 * (x1).toInt + 3 < _; omega)
        · intro c6
          have k7 := y_eqr (n := 0) rfl c6
          have r8 := w.at (a := 187) (k := 16) rfl
          exact ih.2.1 _ _ _ _ _ w f (by show (0 : Int) ≤ (x1).toInt; omega) (by show (x1).toInt ≤ (7 : Int); omega) (by show (0 : Int) ≤ (x2).toInt; omega) (by show (x2).toInt ≤ (7 : Int); omega) (by show ((m.1 187 16)).toInt = 0; omega) (by show 0 * (x1).toInt + 3 < _; omega)
      · intro c9
        have k10 := y_ner (n := 1) rfl c9
        refine ⟨?_, ?_⟩
        · intro c11
          have k12 := y_ner (n := 1) rfl c11
          have r13 := w.at (a := 187) (k := 16) rfl
          exact ih.2.1 _ _ _ _ _ w f (by show (0 : Int) ≤ (x1).toInt; omega) (by show (x1).toInt ≤ (7 : Int); omega) (by show (0 : Int) ≤ (x2).toInt; omega) (by show (x2).toInt ≤ (7 : Int); omega) (by show ((m.1 187 16)).toInt = 0; omega) (by show 0 * (x1).toInt + 3 < _; omega)
        · intro c14
          have k15 := y_eqr (n := 1) rfl c14
          have r16 := w.at (a := 187) (k := 16) rfl
          exact ih.2.1 _ _ _ _ _ w f (by show (0 : Int) ≤ (x1).toInt; omega) (by show (x1).toInt ≤ (7 : Int); omega) (by show (0 : Int) ≤ (x2).toInt; omega) (by show (x2).toInt ≤ (7 : Int); omega) (by show ((m.1 187 16)).toInt = 0; omega) (by show 0 * (x1).toInt + 3 < _; omega)
    · intro m x1 x2 x4 s0 w f j1 j2 j3 j4 j5 hn
      refine g_X12_game_92  ?_
      refine ⟨?_, ?_⟩
      · intro c1
        have k2 := y_eqr (n := 0) rfl c1
        refine ⟨?_, ?_⟩
        · intro c3
          have k4 := y_eqr (n := 0) rfl c3
          have r5 := w.at (a := 187) (k := 16) rfl
          exact ih.2.2.1 _ _ _ _ w f (by show (0 : Int) ≤ (x2).toInt; omega) (by show (x2).toInt ≤ (7 : Int); omega) (by show (0 : Int) ≤ (x1).toInt; omega) (by show (x1).toInt ≤ (7 : Int); omega) (by show ((m.1 187 16)).toInt = 0; omega) (by show 0 * (x2).toInt + 2 < _; omega)
        · intro c6
          have k7 := y_ner (n := 0) rfl c6
          have r8 := w.at (a := 187) (k := 16) rfl
          exact ih.2.2.1 _ _ _ _ w f (by show (0 : Int) ≤ (x2).toInt; omega) (by show (x2).toInt ≤ (7 : Int); omega) (by show (0 : Int) ≤ (x2).toInt; omega) (by show (x2).toInt ≤ (7 : Int); omega) (by show ((m.1 187 16)).toInt = 0; omega) (by show 0 * (x2).toInt + 2 < _; omega)
      · intro c9
        have k10 := y_ner (n := 0) rfl c9
        refine ⟨?_, ?_⟩
        · intro c11
          have k12 := y_eqr (n := 0) rfl c11
          have r13 := w.at (a := 187) (k := 16) rfl
          exact ih.2.2.1 _ _ _ _ w f (by show (0 : Int) ≤ (x1).toInt; omega) (by show (x1).toInt ≤ (7 : Int); omega) (by show (0 : Int) ≤ (x1).toInt; omega) (by show (x1).toInt ≤ (7 : Int); omega) (by show ((m.1 187 16)).toInt = 0; omega) (by show 0 * (x1).toInt + 2 < _; omega)
        · intro c14
          have k15 := y_ner (n := 0) rfl c14
          have r16 := w.at (a := 187) (k := 16) rfl
          exact ih.2.2.1 _ _ _ _ w f (by show (0 : Int) ≤ (x1).toInt; omega) (by show (x1).toInt ≤ (7 : Int); omega) (by show (0 : Int) ≤ (x2).toInt; omega) (by show (x2).toInt ≤ (7 : Int); omega) (by show ((m.1 187 16)).toInt = 0; omega) (by show 0 * (x1).toInt + 2 < _; omega)
    · intro m x4 x8 s0 w f j1 j2 j3 j4 j5 hn
      refine g_X12_game_116  ?_
      refine (s_X12_artOf w (by show (0 : Int) ≤ (x8).toInt; omega) (by show (x8).toInt ≤ (7 : Int); omega) (by show (0 : Int) ≤ (s0).toInt; omega) (by show (s0).toInt ≤ (7 : Int); omega)).to ?_
      rintro _ m1 ⟨w_m1, g1, v2, rfl, p2, p3⟩
      have f_m1 : Fx (RS [20, 22, 26, 28]) m0 m1 := f.tr g1 (RS_sub rfl)
      have e4 : (m1.1 187 16).toInt = ((m.1 187 16)).toInt := congrArg _ (g1.at (a := 187) (k := 16) (by decide))
      have e5 : (m1.1 187 1).toInt = ((m.1 187 1)).toInt := congrArg _ (g1.at (a := 187) (k := 1) (by decide))
      have e6 : (m1.1 187 0).toInt = ((m.1 187 0)).toInt := congrArg _ (g1.at (a := 187) (k := 0) (by decide))
      refine ⟨v2, rfl, ?_⟩
      refine ⟨?_, ?_⟩
      · intro c7
        have k8 := y_ner (n := -1) rfl c7
        refine (s_X12_gainOf w_m1 (by show (0 : Int) ≤ (x8).toInt; omega) (by show (x8).toInt ≤ (7 : Int); omega) (by show (0 : Int) ≤ (s0).toInt; omega) (by show (s0).toInt ≤ (7 : Int); omega) (by show (0 : Int) ≤ (v2).toInt; omega) (by show (v2).toInt ≤ (3 : Int); omega)).to ?_
        rintro _ m3 ⟨w_m3, g9, v4, rfl⟩
        have f_m3 : Fx (RS [20, 22, 26, 28]) m0 m3 := f_m1.tr g9 (RS_sub rfl)
        have e10 : (m3.1 187 16).toInt = ((m1.1 187 16)).toInt := congrArg _ (g9.at (a := 187) (k := 16) (by decide))
        have e11 : (m3.1 187 1).toInt = ((m1.1 187 1)).toInt := congrArg _ (g9.at (a := 187) (k := 1) (by decide))
        have e12 : (m3.1 187 0).toInt = ((m1.1 187 0)).toInt := congrArg _ (g9.at (a := 187) (k := 0) (by decide))
        refine ⟨v4, rfl, ?_⟩
        have r13 := w_m3.at (a := 187) (k := 16) rfl
        exact ih.2.2.2 _ _ _ _ w_m3 f_m3 (by show ((m3.1 187 16)).toInt = 0; omega) (by show 0 * (x4).toInt + 1 < _; omega)
      · intro c14
        have k15 := y_eqr (n := -1) rfl c14
        have r16 := w_m1.at (a := 187) (k := 16) rfl
        exact ih.2.2.2 _ _ _ _ w_m1 f_m1 (by show ((m1.1 187 16)).toInt = 0; omega) (by show 0 * (x4).toInt + 1 < _; omega)
    · intro m x4 x5 x6 w f j1 hn
      refine g_X12_game_150  ?_
      have r1 := w.at (a := 187) (k := 16) rfl
      refine (s_X12_tell w (by show ((m.1 187 16)).toInt ≤ 15; omega)).to ?_
      rintro _ m1 ⟨w_m1, g2, rfl, p3⟩
      have f_m1 : Fx (RS [20, 22, 26, 28]) m0 m1 := f.tr g2 (RS_sub rfl)
      have p4 : (m1.1 187 16).toInt = ((m.1 187 16)).toInt + 1 := p3
      clear p3
      have e5 : (m1.1 187 1).toInt = ((m.1 187 1)).toInt := congrArg _ (g2.at (a := 187) (k := 1) (by decide))
      have e6 : (m1.1 187 0).toInt = ((m.1 187 0)).toInt := congrArg _ (g2.at (a := 187) (k := 0) (by decide))
      refine ⟨rfl, ?_⟩
      have r7 := w_m1.at (a := 187) (k := 16) rfl
      refine (s_X12_tell w_m1 (by show ((m1.1 187 16)).toInt ≤ 15; omega)).to ?_
      rintro _ m2 ⟨w_m2, g8, rfl, p9⟩
      have f_m2 : Fx (RS [20, 22, 26, 28]) m0 m2 := f_m1.tr g8 (RS_sub rfl)
      have p10 : (m2.1 187 16).toInt = ((m1.1 187 16)).toInt + 1 := p9
      clear p9
      have e11 : (m2.1 187 1).toInt = ((m1.1 187 1)).toInt := congrArg _ (g8.at (a := 187) (k := 1) (by decide))
      have e12 : (m2.1 187 0).toInt = ((m1.1 187 0)).toInt := congrArg _ (g8.at (a := 187) (k := 0) (by decide))
      refine ⟨rfl, ?_⟩
      exact ⟨w_m2, f_m2, _, rfl⟩
set_option maxHeartbeats 4000000 in
theorem s_X12_game {ad : Nat → Nat} {d : Nat} {m : Wm} {x1 x2 x3 : Int32} (w : WT m) : Ct ad μX12_game (d + 170) [.ref (ad 187), .int x1, .int x2, .int x3] m (fun r m' => WT m' ∧ Fx (RS [20, 22, 26, 28]) m m' ∧ ∃ v : Int32, r = some (.int v)) := by
  have f : Fx (RS [20, 22, 26, 28]) m m := Fx.rf
  refine v_X12_game  ?_
  have w1 : WT (uI m 187 17 (0 : Int32)) := w.n rfl
  have f1 : Fx (RS [20, 22, 26, 28]) m (uI m 187 17 (0 : Int32)) := f.i rfl
  refine (s_X12_areTwo w1).to ?_
  rintro _ m1 ⟨w_m1, g2, v2, rfl, p4, p5, p3⟩
  have f_m1 : Fx (RS [20, 22, 26, 28]) m m1 := f1.tr g2 (RS_sub rfl)
  have p6 : (v2.toInt = 0 ∧ ((x1).toInt < 0 ∨ ((m.1 187 1)).toInt ≤ (x1).toInt ∨ (x2).toInt < 0 ∨ ((m.1 187 1)).toInt ≤ (x2).toInt ∨ (x1).toInt = (x2).toInt)) ∨ (v2.toInt = 1 ∧ 0 ≤ (x1).toInt ∧ (x1).toInt < ((m.1 187 1)).toInt ∧ 0 ≤ (x2).toInt ∧ (x2).toInt < ((m.1 187 1)).toInt ∧ (x1).toInt ≠ (x2).toInt) := p3
  clear p3
  have e7 : (m1.1 187 16).toInt = ((m.1 187 16)).toInt := congrArg _ (g2.at (a := 187) (k := 16) (by decide))
  have e8 : (m1.1 187 1).toInt = ((m.1 187 1)).toInt := congrArg _ (g2.at (a := 187) (k := 1) (by decide))
  have e9 : (m1.1 187 0).toInt = ((m.1 187 0)).toInt := congrArg _ (g2.at (a := 187) (k := 0) (by decide))
  refine ⟨v2, rfl, ?_⟩
  refine ⟨?_, ?_⟩
  · intro c10
    have k11 := y_eqr (n := 0) rfl c10
    exact ⟨w_m1, f_m1, _, rfl⟩
  · intro c12
    have k13 := y_ner (n := 0) rfl c12
    have r14 := w.at (a := 187) (k := 1) rfl
    refine (s_X12_isThrown w_m1).to ?_
    rintro _ m3 ⟨w_m3, g15, v4, rfl, p16, p17⟩
    have f_m3 : Fx (RS [20, 22, 26, 28]) m m3 := f_m1.tr g15 (RS_sub rfl)
    have e18 : (m3.1 187 16).toInt = ((m1.1 187 16)).toInt := congrArg _ (g15.at (a := 187) (k := 16) (by decide))
    have e19 : (m3.1 187 1).toInt = ((m1.1 187 1)).toInt := congrArg _ (g15.at (a := 187) (k := 1) (by decide))
    have e20 : (m3.1 187 0).toInt = ((m1.1 187 0)).toInt := congrArg _ (g15.at (a := 187) (k := 0) (by decide))
    refine ⟨v4, rfl, ?_⟩
    refine ⟨?_, ?_⟩
    · intro c21
      have k22 := y_ner (n := 0) rfl c21
      refine (s_X12_winner w_m3 (by show (0 : Int) ≤ (x1).toInt; omega) (by show (x1).toInt ≤ (7 : Int); omega) (by show (0 : Int) ≤ (x2).toInt; omega) (by show (x2).toInt ≤ (7 : Int); omega)).to ?_
      rintro _ m5 ⟨w_m5, g23, v6, rfl, p24, p25⟩
      have f_m5 : Fx (RS [20, 22, 26, 28]) m m5 := f_m3.tr g23 (RS_sub rfl)
      have e26 : (m5.1 187 16).toInt = ((m3.1 187 16)).toInt := congrArg _ (g23.at (a := 187) (k := 16) (by decide))
      have e27 : (m5.1 187 1).toInt = ((m3.1 187 1)).toInt := congrArg _ (g23.at (a := 187) (k := 1) (by decide))
      have e28 : (m5.1 187 0).toInt = ((m3.1 187 0)).toInt := congrArg _ (g23.at (a := 187) (k := 0) (by decide))
      refine ⟨v6, rfl, ?_⟩
      refine ⟨?_, ?_⟩
      · intro c29
        have k30 := y_eqr (n := 2) rfl c29
        have w31 : WT (uI m5 187 16 (0 : Int32)) := w_m5.t rfl (by show (0 : Int) ≤ (0 : Int); omega) (by show (0 : Int) ≤ 16; omega)
        have f31 : Fx (RS [20, 22, 26, 28]) m (uI m5 187 16 (0 : Int32)) := f_m5.i rfl
        exact (l_X12_game (m0 := m) 1000000).2.2.2 _ _ _ _ w31 f31 (by show (0 : Int) = 0; omega) (by show 0 * (v6).toInt + 1 < _; omega)
      · intro c32
        have k33 := y_ner (n := 2) rfl c32
        refine ⟨?_, ?_⟩
        · intro c34
          have c35 : (m5.1 193 ((0 : Int32).toNatClampNeg)) = (3 : Int32) := c34
          have k36 := y_eqr (n := 3) rfl c35
          have w37 : WT (uI m5 187 16 (0 : Int32)) := w_m5.t rfl (by show (0 : Int) ≤ (0 : Int); omega) (by show (0 : Int) ≤ 16; omega)
          have f37 : Fx (RS [20, 22, 26, 28]) m (uI m5 187 16 (0 : Int32)) := f_m5.i rfl
          exact (l_X12_game (m0 := m) 1000000).2.2.2 _ _ _ _ w37 f37 (by show (0 : Int) = 0; omega) (by show 0 * (v6).toInt + 1 < _; omega)
        · intro c38
          have c39 : ¬ (m5.1 193 ((0 : Int32).toNatClampNeg)) = (3 : Int32) := c38
          have k40 := y_ner (n := 3) rfl c39
          refine ⟨?_, ?_⟩
          · intro c41
            have k42 := y_ner (n := 0) rfl c41
            have w43 : WT (uI m5 187 16 (0 : Int32)) := w_m5.t rfl (by show (0 : Int) ≤ (0 : Int); omega) (by show (0 : Int) ≤ 16; omega)
            have f43 : Fx (RS [20, 22, 26, 28]) m (uI m5 187 16 (0 : Int32)) := f_m5.i rfl
            exact (l_X12_game (m0 := m) 1000000).1 _ _ _ _ _ w43 f43 (by show (0 : Int) ≤ (x1).toInt; omega) (by show (x1).toInt ≤ (7 : Int); omega) (by show (0 : Int) ≤ (x2).toInt; omega) (by show (x2).toInt ≤ (7 : Int); omega) (by show (0 : Int) = 0; omega) (by show 0 * (x1).toInt + 4 < _; omega)
          · intro c44
            have k45 := y_eqr (n := 0) rfl c44
            have w46 : WT (uI m5 187 16 (0 : Int32)) := w_m5.t rfl (by show (0 : Int) ≤ (0 : Int); omega) (by show (0 : Int) ≤ 16; omega)
            have f46 : Fx (RS [20, 22, 26, 28]) m (uI m5 187 16 (0 : Int32)) := f_m5.i rfl
            exact (l_X12_game (m0 := m) 1000000).1 _ _ _ _ _ w46 f46 (by show (0 : Int) ≤ (x1).toInt; omega) (by show (x1).toInt ≤ (7 : Int); omega) (by show (0 : Int) ≤ (x2).toInt; omega) (by show (x2).toInt ≤ (7 : Int); omega) (by show (0 : Int) = 0; omega) (by show 0 * (x1).toInt + 4 < _; omega)
    · intro c47
      have k48 := y_eqr (n := 0) rfl c47
      exact ⟨w_m3, f_m3, _, rfl⟩
set_option maxHeartbeats 4000000 in
theorem s_X12_chanceOf {ad : Nat → Nat} {d : Nat} {m : Wm} {x1 x2 : Int32} (w : WT m) (i1 : (0 : Int) ≤ x1.toInt) (i2 : x1.toInt ≤ (7 : Int)) (i3 : (0 : Int) ≤ x2.toInt) (i4 : x2.toInt ≤ (7 : Int)) : Ct ad μX12_chanceOf (d + 169) [.ref (ad 187), .int x1, .int x2] m (fun r m' => WT m' ∧ Fx (RS [22, 28]) m m' ∧ ∃ v : Int32, r = some (.int v) ∧ (0 : Int) ≤ v.toInt ∧ v.toInt ≤ 100) := by
  have f : Fx (RS [22, 28]) m m := Fx.rf
  refine v_X12_chanceOf  ?_
  refine (s_X12_power w (by show (0 : Int) ≤ (x1).toInt; omega) (by show (x1).toInt ≤ (7 : Int); omega)).to ?_
  rintro _ m1 ⟨w_m1, g1, v2, rfl⟩
  have f_m1 : Fx (RS [22, 28]) m m1 := f.tr g1 (RS_sub rfl)
  have e2 : (m1.1 187 1).toInt = ((m.1 187 1)).toInt := congrArg _ (g1.at (a := 187) (k := 1) (by decide))
  have e3 : (m1.1 187 0).toInt = ((m.1 187 0)).toInt := congrArg _ (g1.at (a := 187) (k := 0) (by decide))
  refine ⟨v2, rfl, ?_⟩
  refine (s_X12_power w_m1 (by show (0 : Int) ≤ (x2).toInt; omega) (by show (x2).toInt ≤ (7 : Int); omega)).to ?_
  rintro _ m3 ⟨w_m3, g4, v4, rfl⟩
  have f_m3 : Fx (RS [22, 28]) m m3 := f_m1.tr g4 (RS_sub rfl)
  have e5 : (m3.1 187 1).toInt = ((m1.1 187 1)).toInt := congrArg _ (g4.at (a := 187) (k := 1) (by decide))
  have e6 : (m3.1 187 0).toInt = ((m1.1 187 0)).toInt := congrArg _ (g4.at (a := 187) (k := 0) (by decide))
  refine ⟨v4, rfl, ?_⟩
  have t7 := ti_ltv (a := ((50 : Int32) + ((m.1 193 ((4 : Int32).toNatClampNeg)) * (v2 - v4)))) (b := (100 : Int32)) (c := ((50 : Int32) + ((m.1 193 ((4 : Int32).toNatClampNeg)) * (v2 - v4)))) (d := (100 : Int32)) (A := ((50 : Int32) + ((m.1 193 ((4 : Int32).toNatClampNeg)) * (v2 - v4))).toInt) (B := (100)) (C := ((50 : Int32) + ((m.1 193 ((4 : Int32).toNatClampNeg)) * (v2 - v4))).toInt) (D := (100)) rfl rfl rfl rfl
  have t8 := ti_ltv (a := (0 : Int32)) (b := (if ((50 : Int32) + ((m.1 193 ((4 : Int32).toNatClampNeg)) * (v2 - v4))) < (100 : Int32) then ((50 : Int32) + ((m.1 193 ((4 : Int32).toNatClampNeg)) * (v2 - v4))) else (100 : Int32))) (c := (if ((50 : Int32) + ((m.1 193 ((4 : Int32).toNatClampNeg)) * (v2 - v4))) < (100 : Int32) then ((50 : Int32) + ((m.1 193 ((4 : Int32).toNatClampNeg)) * (v2 - v4))) else (100 : Int32))) (d := (0 : Int32)) (A := (0)) (B := (if ((50 : Int32) + ((m.1 193 ((4 : Int32).toNatClampNeg)) * (v2 - v4))) < (100 : Int32) then ((50 : Int32) + ((m.1 193 ((4 : Int32).toNatClampNeg)) * (v2 - v4))) else (100 : Int32)).toInt) (C := (if ((50 : Int32) + ((m.1 193 ((4 : Int32).toNatClampNeg)) * (v2 - v4))) < (100 : Int32) then ((50 : Int32) + ((m.1 193 ((4 : Int32).toNatClampNeg)) * (v2 - v4))) else (100 : Int32)).toInt) (D := (0)) rfl rfl rfl rfl
  exact ⟨w_m3, f_m3, _, rfl, (by show (0 : Int) ≤ ((if (0 : Int32) < (if ((50 : Int32) + ((m.1 193 ((4 : Int32).toNatClampNeg)) * (v2 - v4))) < (100 : Int32) then ((50 : Int32) + ((m.1 193 ((4 : Int32).toNatClampNeg)) * (v2 - v4))) else (100 : Int32)) then (if ((50 : Int32) + ((m.1 193 ((4 : Int32).toNatClampNeg)) * (v2 - v4))) < (100 : Int32) then ((50 : Int32) + ((m.1 193 ((4 : Int32).toNatClampNeg)) * (v2 - v4))) else (100 : Int32)) else (0 : Int32))).toInt; omega), (by show ((if (0 : Int32) < (if ((50 : Int32) + ((m.1 193 ((4 : Int32).toNatClampNeg)) * (v2 - v4))) < (100 : Int32) then ((50 : Int32) + ((m.1 193 ((4 : Int32).toNatClampNeg)) * (v2 - v4))) else (100 : Int32)) then (if ((50 : Int32) + ((m.1 193 ((4 : Int32).toNatClampNeg)) * (v2 - v4))) < (100 : Int32) then ((50 : Int32) + ((m.1 193 ((4 : Int32).toNatClampNeg)) * (v2 - v4))) else (100 : Int32)) else (0 : Int32))).toInt ≤ (100 : Int); omega)⟩
set_option maxHeartbeats 4000000 in
theorem s_X12_odds {ad : Nat → Nat} {d : Nat} {m : Wm} {x1 x2 : Int32} (w : WT m) : Ct ad μX12_odds (d + 170) [.ref (ad 187), .int x1, .int x2] m (fun r m' => WT m' ∧ Fx (RS [20, 22, 28]) m m' ∧ ∃ v : Int32, r = some (.int v)) := by
  have f : Fx (RS [20, 22, 28]) m m := Fx.rf
  refine v_X12_odds  ?_
  have w1 : WT (uI m 187 17 (0 : Int32)) := w.n rfl
  have f1 : Fx (RS [20, 22, 28]) m (uI m 187 17 (0 : Int32)) := f.i rfl
  refine (s_X12_areTwo w1).to ?_
  rintro _ m1 ⟨w_m1, g2, v2, rfl, p4, p5, p3⟩
  have f_m1 : Fx (RS [20, 22, 28]) m m1 := f1.tr g2 (RS_sub rfl)
  have p6 : (v2.toInt = 0 ∧ ((x1).toInt < 0 ∨ ((m.1 187 1)).toInt ≤ (x1).toInt ∨ (x2).toInt < 0 ∨ ((m.1 187 1)).toInt ≤ (x2).toInt ∨ (x1).toInt = (x2).toInt)) ∨ (v2.toInt = 1 ∧ 0 ≤ (x1).toInt ∧ (x1).toInt < ((m.1 187 1)).toInt ∧ 0 ≤ (x2).toInt ∧ (x2).toInt < ((m.1 187 1)).toInt ∧ (x1).toInt ≠ (x2).toInt) := p3
  clear p3
  have e7 : (m1.1 187 1).toInt = ((m.1 187 1)).toInt := congrArg _ (g2.at (a := 187) (k := 1) (by decide))
  have e8 : (m1.1 187 0).toInt = ((m.1 187 0)).toInt := congrArg _ (g2.at (a := 187) (k := 0) (by decide))
  refine ⟨v2, rfl, ?_⟩
  refine ⟨?_, ?_⟩
  · intro c9
    have k10 := y_eqr (n := 0) rfl c9
    exact ⟨w_m1, f_m1, _, rfl⟩
  · intro c11
    have k12 := y_ner (n := 0) rfl c11
    have r13 := w.at (a := 187) (k := 1) rfl
    refine (s_X12_chanceOf w_m1 (by show (0 : Int) ≤ (x1).toInt; omega) (by show (x1).toInt ≤ (7 : Int); omega) (by show (0 : Int) ≤ (x2).toInt; omega) (by show (x2).toInt ≤ (7 : Int); omega)).to ?_
    rintro _ m3 ⟨w_m3, g14, v4, rfl, p15, p16⟩
    have f_m3 : Fx (RS [20, 22, 28]) m m3 := f_m1.tr g14 (RS_sub rfl)
    have e17 : (m3.1 187 1).toInt = ((m1.1 187 1)).toInt := congrArg _ (g14.at (a := 187) (k := 1) (by decide))
    have e18 : (m3.1 187 0).toInt = ((m1.1 187 0)).toInt := congrArg _ (g14.at (a := 187) (k := 0) (by decide))
    refine ⟨v4, rfl, ?_⟩
    exact ⟨w_m3, f_m3, _, rfl⟩
set_option maxHeartbeats 4000000 in
theorem l_X12_settle {ad : Nat → Nat} {d : Nat} {m0 : Wm}  : ∀ n : Nat, (∀ (m : Wm) (x1 x2 x3 x4 : Int32), WT m → Fx (RS [24]) m0 m → (0 : Int) ≤ x1.toInt → x1.toInt ≤ (7 : Int) → (0 : Int) ≤ x2.toInt → x2.toInt ≤ (7 : Int) → 0 * x1.toInt + 4 < (n : Int) → AW ad E0 μX12_settle (d + 3) (fun r m' => WT m' ∧ Fx (RS [24]) m0 m' ∧ r = none) 18 [(0, .ref (ad 187)), (1, .int x1), (2, .int x2), (3, .int x3), (4, .int x4)] [] m) ∧ (∀ (m : Wm) (x1 x2 x4 : Int32), WT m → Fx (RS [24]) m0 m → (0 : Int) ≤ x1.toInt → x1.toInt ≤ (7 : Int) → (0 : Int) ≤ x2.toInt → x2.toInt ≤ (7 : Int) → 0 * x1.toInt + 3 < (n : Int) → AW ad E0 μX12_settle (d + 3) (fun r m' => WT m' ∧ Fx (RS [24]) m0 m' ∧ r = none) 36 [(0, .ref (ad 187)), (1, .int x1), (2, .int x2), (4, .int x4)] [] m) ∧ (∀ (m : Wm) (x5 s0 : Int32), WT m → Fx (RS [24]) m0 m → (0 : Int) ≤ x5.toInt → x5.toInt ≤ (7 : Int) → (0 : Int) ≤ s0.toInt → s0.toInt ≤ (7 : Int) → 0 * x5.toInt + 2 < (n : Int) → AW ad E0 μX12_settle (d + 3) (fun r m' => WT m' ∧ Fx (RS [24]) m0 m' ∧ r = none) 85 [(0, .ref (ad 187)), (5, .int x5)] [.int s0] m) ∧ (∀ (m : Wm) (x5 x6 : Int32), WT m → Fx (RS [24]) m0 m → (0 : Int) ≤ x5.toInt → x5.toInt ≤ (7 : Int) → (0 : Int) ≤ x6.toInt → x6.toInt ≤ (7 : Int) → 0 * x5.toInt + 1 < (n : Int) → AW ad E0 μX12_settle (d + 3) (fun r m' => WT m' ∧ Fx (RS [24]) m0 m' ∧ r = none) 125 [(0, .ref (ad 187)), (5, .int x5), (6, .int x6)] [] m) := by
  intro n
  induction n with
  | zero =>
    refine ⟨?_, ?_, ?_, ?_⟩ <;> intros <;> exfalso <;> omega
  | succ n ih =>
    refine ⟨?_, ?_, ?_, ?_⟩
    · intro m x1 x2 x3 x4 w f j1 j2 j3 j4 hn
      refine g_X12_settle_18  ?_
      refine (s_X12_has w).to ?_
      rintro _ m1 ⟨w_m1, g1, v2, rfl, p2, p3⟩
      have f_m1 : Fx (RS [24]) m0 m1 := f.tr g1 (RS_sub rfl)
      have e4 : (m1.1 187 1).toInt = ((m.1 187 1)).toInt := congrArg _ (g1.at (a := 187) (k := 1) (by decide))
      have e5 : (m1.1 187 0).toInt = ((m.1 187 0)).toInt := congrArg _ (g1.at (a := 187) (k := 0) (by decide))
      refine ⟨v2, rfl, ?_⟩
      refine ⟨?_, ?_⟩
      · intro c6
        have k7 := y_eqr (n := 0) rfl c6
        exact ih.2.1 _ _ _ _ w_m1 f_m1 (by show (0 : Int) ≤ (x1).toInt; omega) (by show (x1).toInt ≤ (7 : Int); omega) (by show (0 : Int) ≤ (x2).toInt; omega) (by show (x2).toInt ≤ (7 : Int); omega) (by show 0 * (x1).toInt + 3 < _; omega)
      · intro c8
        have k9 := y_ner (n := 0) rfl c8
        refine ⟨?_, ?_⟩
        · exact vpi (by omega) (by omega)
        · refine ⟨?_, ?_⟩
          · exact vpi (by omega) (by omega)
          · have w10 : WT (uI m1 192 x2.toNatClampNeg ((m1.1 192 x2.toNatClampNeg) + (1 : Int32))) := w_m1.n rfl
            have f10 : Fx (RS [24]) m0 (uI m1 192 x2.toNatClampNeg ((m1.1 192 x2.toNatClampNeg) + (1 : Int32))) := f_m1.i rfl
            exact ih.2.1 _ _ _ _ w10 f10 (by show (0 : Int) ≤ (x1).toInt; omega) (by show (x1).toInt ≤ (7 : Int); omega) (by show (0 : Int) ≤ (x2).toInt; omega) (by show (x2).toInt ≤ (7 : Int); omega) (by show 0 * (x1).toInt + 3 < _; omega)
    · intro m x1 x2 x4 w f j1 j2 j3 j4 hn
      refine g_X12_settle_36  ?_
      refine ⟨?_, ?_⟩
      · intro c1
        have k2 := y_ner (n := 2) rfl c1
        refine ⟨?_, ?_⟩
        · intro c3
          have k4 := y_ner (n := 0) rfl c3
          refine ⟨?_, ?_⟩
          · intro c5
            have k6 := y_ner (n := 0) rfl c5
            exact ih.2.2.1 _ _ _ w f (by show (0 : Int) ≤ (x2).toInt; omega) (by show (x2).toInt ≤ (7 : Int); omega) (by show (0 : Int) ≤ (x1).toInt; omega) (by show (x1).toInt ≤ (7 : Int); omega) (by show 0 * (x2).toInt + 2 < _; omega)
          · intro c7
            have k8 := y_eqr (n := 0) rfl c7
            exact ih.2.2.1 _ _ _ w f (by show (0 : Int) ≤ (x2).toInt; omega) (by show (x2).toInt ≤ (7 : Int); omega) (by show (0 : Int) ≤ (x2).toInt; omega) (by show (x2).toInt ≤ (7 : Int); omega) (by show 0 * (x2).toInt + 2 < _; omega)
        · intro c9
          have k10 := y_eqr (n := 0) rfl c9
          refine ⟨?_, ?_⟩
          · intro c11
            have k12 := y_ner (n := 0) rfl c11
            exact ih.2.2.1 _ _ _ w f (by show (0 : Int) ≤ (x1).toInt; omega) (by show (x1).toInt ≤ (7 : Int); omega) (by show (0 : Int) ≤ (x1).toInt; omega) (by show (x1).toInt ≤ (7 : Int); omega) (by show 0 * (x1).toInt + 2 < _; omega)
          · intro c13
            have k14 := y_eqr (n := 0) rfl c13
            exact ih.2.2.1 _ _ _ w f (by show (0 : Int) ≤ (x1).toInt; omega) (by show (x1).toInt ≤ (7 : Int); omega) (by show (0 : Int) ≤ (x2).toInt; omega) (by show (x2).toInt ≤ (7 : Int); omega) (by show 0 * (x1).toInt + 2 < _; omega)
      · intro c15
        have k16 := y_eqr (n := 2) rfl c15
        refine ⟨?_, ?_⟩
        · exact vpi (by omega) (by omega)
        · refine ⟨?_, ?_⟩
          · exact vpi (by omega) (by omega)
          · refine ⟨?_, ?_⟩
            · exact vpi (by omega) (by omega)
            · refine ⟨?_, ?_⟩
              · exact vpi (by omega) (by omega)
              · have w17 : WT (uI m 190 x1.toNatClampNeg ((m.1 190 x1.toNatClampNeg) + (1 : Int32))) := w.n rfl
                have f17 : Fx (RS [24]) m0 (uI m 190 x1.toNatClampNeg ((m.1 190 x1.toNatClampNeg) + (1 : Int32))) := f.i rfl
                have w18 : WT (uI (uI m 190 x1.toNatClampNeg ((m.1 190 x1.toNatClampNeg) + (1 : Int32))) 190 x2.toNatClampNeg (((uI m 190 x1.toNatClampNeg ((m.1 190 x1.toNatClampNeg) + (1 : Int32))).1 190 x2.toNatClampNeg) + (1 : Int32))) := w17.n rfl
                have f18 : Fx (RS [24]) m0 (uI (uI m 190 x1.toNatClampNeg ((m.1 190 x1.toNatClampNeg) + (1 : Int32))) 190 x2.toNatClampNeg (((uI m 190 x1.toNatClampNeg ((m.1 190 x1.toNatClampNeg) + (1 : Int32))).1 190 x2.toNatClampNeg) + (1 : Int32))) := f17.i rfl
                exact ⟨w18, f18, rfl⟩
    · intro m x5 s0 w f j1 j2 j3 j4 hn
      refine g_X12_settle_85  ?_
      refine ⟨?_, ?_⟩
      · exact vpi (by omega) (by omega)
      · refine ⟨?_, ?_⟩
        · exact vpi (by omega) (by omega)
        · refine ⟨?_, ?_⟩
          · intro c1
            have c2 : (m.1 193 ((0 : Int32).toNatClampNeg)) = (0 : Int32) := c1
            have k3 := y_eqr (n := 0) rfl c2
            have w4 : WT (uI m 190 x5.toNatClampNeg ((m.1 190 x5.toNatClampNeg) + (3 : Int32))) := w.n rfl
            have f4 : Fx (RS [24]) m0 (uI m 190 x5.toNatClampNeg ((m.1 190 x5.toNatClampNeg) + (3 : Int32))) := f.i rfl
            refine (s_X12_teach w4 (by show (0 : Int) ≤ (x5).toInt; omega) (by show (x5).toInt ≤ (7 : Int); omega) (by show (0 : Int) ≤ (s0).toInt; omega) (by show (s0).toInt ≤ (7 : Int); omega)).to ?_
            rintro _ m1 ⟨w_m1, g5, rfl⟩
            have f_m1 : Fx (RS [24]) m0 m1 := f4.tr g5 (RS_sub rfl)
            have e6 : (m1.1 187 1).toInt = ((m.1 187 1)).toInt := congrArg _ (g5.at (a := 187) (k := 1) (by decide))
            have e7 : (m1.1 187 0).toInt = ((m.1 187 0)).toInt := congrArg _ (g5.at (a := 187) (k := 0) (by decide))
            refine ⟨rfl, ?_⟩
            exact ih.2.2.2 _ _ _ w_m1 f_m1 (by show (0 : Int) ≤ (x5).toInt; omega) (by show (x5).toInt ≤ (7 : Int); omega) (by show (0 : Int) ≤ (s0).toInt; omega) (by show (s0).toInt ≤ (7 : Int); omega) (by show 0 * (x5).toInt + 1 < _; omega)
          · intro c8
            have c9 : ¬ (m.1 193 ((0 : Int32).toNatClampNeg)) = (0 : Int32) := c8
            have k10 := y_ner (n := 0) rfl c9
            refine ⟨?_, ?_⟩
            · intro c11
              have c12 : ¬ (m.1 193 ((0 : Int32).toNatClampNeg)) = (2 : Int32) := c11
              have k13 := y_ner (n := 2) rfl c12
              have w14 : WT (uI m 190 x5.toNatClampNeg ((m.1 190 x5.toNatClampNeg) + (3 : Int32))) := w.n rfl
              have f14 : Fx (RS [24]) m0 (uI m 190 x5.toNatClampNeg ((m.1 190 x5.toNatClampNeg) + (3 : Int32))) := f.i rfl
              exact ih.2.2.2 _ _ _ w14 f14 (by show (0 : Int) ≤ (x5).toInt; omega) (by show (x5).toInt ≤ (7 : Int); omega) (by show (0 : Int) ≤ (s0).toInt; omega) (by show (s0).toInt ≤ (7 : Int); omega) (by show 0 * (x5).toInt + 1 < _; omega)
            · intro c15
              have c16 : (m.1 193 ((0 : Int32).toNatClampNeg)) = (2 : Int32) := c15
              have k17 := y_eqr (n := 2) rfl c16
              have w18 : WT (uI m 190 x5.toNatClampNeg ((m.1 190 x5.toNatClampNeg) + (3 : Int32))) := w.n rfl
              have f18 : Fx (RS [24]) m0 (uI m 190 x5.toNatClampNeg ((m.1 190 x5.toNatClampNeg) + (3 : Int32))) := f.i rfl
              refine (s_X12_teach w18 (by show (0 : Int) ≤ (x5).toInt; omega) (by show (x5).toInt ≤ (7 : Int); omega) (by show (0 : Int) ≤ (s0).toInt; omega) (by show (s0).toInt ≤ (7 : Int); omega)).to ?_
              rintro _ m2 ⟨w_m2, g19, rfl⟩
              have f_m2 : Fx (RS [24]) m0 m2 := f18.tr g19 (RS_sub rfl)
              have e20 : (m2.1 187 1).toInt = ((m.1 187 1)).toInt := congrArg _ (g19.at (a := 187) (k := 1) (by decide))
              have e21 : (m2.1 187 0).toInt = ((m.1 187 0)).toInt := congrArg _ (g19.at (a := 187) (k := 0) (by decide))
              refine ⟨rfl, ?_⟩
              exact ih.2.2.2 _ _ _ w_m2 f_m2 (by show (0 : Int) ≤ (x5).toInt; omega) (by show (x5).toInt ≤ (7 : Int); omega) (by show (0 : Int) ≤ (s0).toInt; omega) (by show (s0).toInt ≤ (7 : Int); omega) (by show 0 * (x5).toInt + 1 < _; omega)
    · intro m x5 x6 w f j1 j2 j3 j4 hn
      refine g_X12_settle_125  ?_
      refine ⟨?_, ?_⟩
      · intro c1
        have k2 := y_eqr (n := 1) rfl c1
        refine (s_X12_teach w (by show (0 : Int) ≤ (x6).toInt; omega) (by show (x6).toInt ≤ (7 : Int); omega) (by show (0 : Int) ≤ (x5).toInt; omega) (by show (x5).toInt ≤ (7 : Int); omega)).to ?_
        rintro _ m1 ⟨w_m1, g3, rfl⟩
        have f_m1 : Fx (RS [24]) m0 m1 := f.tr g3 (RS_sub rfl)
        have e4 : (m1.1 187 1).toInt = ((m.1 187 1)).toInt := congrArg _ (g3.at (a := 187) (k := 1) (by decide))
        have e5 : (m1.1 187 0).toInt = ((m.1 187 0)).toInt := congrArg _ (g3.at (a := 187) (k := 0) (by decide))
        refine ⟨rfl, ?_⟩
        exact ⟨w_m1, f_m1, rfl⟩
      · intro c6
        have k7 := y_ner (n := 1) rfl c6
        refine ⟨?_, ?_⟩
        · intro c8
          have k9 := y_ner (n := 2) rfl c8
          exact ⟨w, f, rfl⟩
        · intro c10
          have k11 := y_eqr (n := 2) rfl c10
          refine (s_X12_teach w (by show (0 : Int) ≤ (x6).toInt; omega) (by show (x6).toInt ≤ (7 : Int); omega) (by show (0 : Int) ≤ (x5).toInt; omega) (by show (x5).toInt ≤ (7 : Int); omega)).to ?_
          rintro _ m2 ⟨w_m2, g12, rfl⟩
          have f_m2 : Fx (RS [24]) m0 m2 := f.tr g12 (RS_sub rfl)
          have e13 : (m2.1 187 1).toInt = ((m.1 187 1)).toInt := congrArg _ (g12.at (a := 187) (k := 1) (by decide))
          have e14 : (m2.1 187 0).toInt = ((m.1 187 0)).toInt := congrArg _ (g12.at (a := 187) (k := 0) (by decide))
          refine ⟨rfl, ?_⟩
          exact ⟨w_m2, f_m2, rfl⟩
set_option maxHeartbeats 4000000 in
theorem s_X12_settle {ad : Nat → Nat} {d : Nat} {m : Wm} {x1 x2 x3 x4 : Int32} (w : WT m) (i1 : (0 : Int) ≤ x1.toInt) (i2 : x1.toInt ≤ (7 : Int)) (i3 : (0 : Int) ≤ x2.toInt) (i4 : x2.toInt ≤ (7 : Int)) : Ct ad μX12_settle (d + 3) [.ref (ad 187), .int x1, .int x2, .int x3, .int x4] m (fun r m' => WT m' ∧ Fx (RS [24]) m m' ∧ r = none) := by
  have f : Fx (RS [24]) m m := Fx.rf
  refine v_X12_settle  ?_
  refine (s_X12_has w).to ?_
  rintro _ m1 ⟨w_m1, g1, v2, rfl, p2, p3⟩
  have f_m1 : Fx (RS [24]) m m1 := f.tr g1 (RS_sub rfl)
  have e4 : (m1.1 187 1).toInt = ((m.1 187 1)).toInt := congrArg _ (g1.at (a := 187) (k := 1) (by decide))
  have e5 : (m1.1 187 0).toInt = ((m.1 187 0)).toInt := congrArg _ (g1.at (a := 187) (k := 0) (by decide))
  refine ⟨v2, rfl, ?_⟩
  refine ⟨?_, ?_⟩
  · intro c6
    have k7 := y_eqr (n := 0) rfl c6
    exact (l_X12_settle (m0 := m) 1000000).1 _ _ _ _ _ w_m1 f_m1 (by show (0 : Int) ≤ (x1).toInt; omega) (by show (x1).toInt ≤ (7 : Int); omega) (by show (0 : Int) ≤ (x2).toInt; omega) (by show (x2).toInt ≤ (7 : Int); omega) (by show 0 * (x1).toInt + 4 < _; omega)
  · intro c8
    have k9 := y_ner (n := 0) rfl c8
    refine ⟨?_, ?_⟩
    · exact vpi (by omega) (by omega)
    · refine ⟨?_, ?_⟩
      · exact vpi (by omega) (by omega)
      · have w10 : WT (uI m1 192 x1.toNatClampNeg ((m1.1 192 x1.toNatClampNeg) + (1 : Int32))) := w_m1.n rfl
        have f10 : Fx (RS [24]) m (uI m1 192 x1.toNatClampNeg ((m1.1 192 x1.toNatClampNeg) + (1 : Int32))) := f_m1.i rfl
        exact (l_X12_settle (m0 := m) 1000000).1 _ _ _ _ _ w10 f10 (by show (0 : Int) ≤ (x1).toInt; omega) (by show (x1).toInt ≤ (7 : Int); omega) (by show (0 : Int) ≤ (x2).toInt; omega) (by show (x2).toInt ≤ (7 : Int); omega) (by show 0 * (x1).toInt + 4 < _; omega)
set_option maxHeartbeats 4000000 in
theorem s_X12_drawHundred {ad : Nat → Nat} {d : Nat} {m : Wm} (w : WT m) : Ct ad μX12_drawHundred d [.ref (ad 187)] m (fun r m' => WT m' ∧ Fx (RS [49]) m m' ∧ ∃ v : Int32, r = some (.int v)) := by
  have f : Fx (RS [49]) m m := Fx.rf
  refine v_X12_drawHundred  ?_
  have w1 : WT (uI m 187 8 (((m.1 187 8) * (1103515245 : Int32)) + (12345 : Int32))) := w.n rfl
  have f1 : Fx (RS [49]) m (uI m 187 8 (((m.1 187 8) * (1103515245 : Int32)) + (12345 : Int32))) := f.i rfl
  exact ⟨w1, f1, _, rfl⟩
set_option maxHeartbeats 4000000 in
theorem l_X12_goGame {ad : Nat → Nat} {d : Nat} {m0 : Wm}  : ∀ n : Nat, (∀ (m : Wm) (x1 x2 x3 s0 : Int32), WT m → Fx (RS [22, 24, 28, 49]) m0 m → (0 : Int) ≤ x1.toInt → x1.toInt ≤ (7 : Int) → (0 : Int) ≤ x2.toInt → x2.toInt ≤ (7 : Int) → (0 : Int) ≤ s0.toInt → s0.toInt ≤ (2 : Int) → 0 * x1.toInt < (n : Int) → AW ad E0 μX12_goGame (d + 170) (fun r m' => WT m' ∧ Fx (RS [22, 24, 28, 49]) m0 m' ∧ ∃ v : Int32, r = some (.int v) ∧ (0 : Int) ≤ v.toInt ∧ v.toInt ≤ 2) 46 [(0, .ref (ad 187)), (1, .int x1), (2, .int x2), (3, .int x3)] [.int s0] m) := by
  intro n
  induction n with
  | zero =>
    intros
    exfalso
    omega
  | succ n ih =>
    intro m x1 x2 x3 s0 w f j1 j2 j3 j4 j5 j6 hn
    refine g_X12_goGame_46  ?_
    refine (s_X12_settle w (by show (0 : Int) ≤ (x1).toInt; omega) (by show (x1).toInt ≤ (7 : Int); omega) (by show (0 : Int) ≤ (x2).toInt; omega) (by show (x2).toInt ≤ (7 : Int); omega)).to ?_
    rintro _ m1 ⟨w_m1, g1, rfl⟩
    have f_m1 : Fx (RS [22, 24, 28, 49]) m0 m1 := f.tr g1 (RS_sub rfl)
    have e2 : (m1.1 187 1).toInt = ((m.1 187 1)).toInt := congrArg _ (g1.at (a := 187) (k := 1) (by decide))
    have e3 : (m1.1 187 0).toInt = ((m.1 187 0)).toInt := congrArg _ (g1.at (a := 187) (k := 0) (by decide))
    refine ⟨rfl, ?_⟩
    exact ⟨w_m1, f_m1, _, rfl, (by show (0 : Int) ≤ (s0).toInt; omega), (by show (s0).toInt ≤ (2 : Int); omega)⟩
set_option maxHeartbeats 4000000 in
theorem s_X12_goGame {ad : Nat → Nat} {d : Nat} {m : Wm} {x1 x2 x3 x4 : Int32} (w : WT m) (i1 : (0 : Int) ≤ x1.toInt) (i2 : x1.toInt ≤ (7 : Int)) (i3 : (0 : Int) ≤ x2.toInt) (i4 : x2.toInt ≤ (7 : Int)) : Ct ad μX12_goGame (d + 170) [.ref (ad 187), .int x1, .int x2, .int x3, .int x4] m (fun r m' => WT m' ∧ Fx (RS [22, 24, 28, 49]) m m' ∧ ∃ v : Int32, r = some (.int v) ∧ (0 : Int) ≤ v.toInt ∧ v.toInt ≤ 2) := by
  have f : Fx (RS [22, 24, 28, 49]) m m := Fx.rf
  refine v_X12_goGame  ?_
  refine ⟨?_, ?_⟩
  · intro c1
    have k2 := y_eqr (n := 0) rfl c1
    refine (s_X12_winner w (by show (0 : Int) ≤ (x1).toInt; omega) (by show (x1).toInt ≤ (7 : Int); omega) (by show (0 : Int) ≤ (x2).toInt; omega) (by show (x2).toInt ≤ (7 : Int); omega)).to ?_
    rintro _ m1 ⟨w_m1, g3, v2, rfl, p4, p5⟩
    have f_m1 : Fx (RS [22, 24, 28, 49]) m m1 := f.tr g3 (RS_sub rfl)
    have e6 : (m1.1 187 1).toInt = ((m.1 187 1)).toInt := congrArg _ (g3.at (a := 187) (k := 1) (by decide))
    have e7 : (m1.1 187 0).toInt = ((m.1 187 0)).toInt := congrArg _ (g3.at (a := 187) (k := 0) (by decide))
    refine ⟨v2, rfl, ?_⟩
    exact (l_X12_goGame (m0 := m) 1000000) _ _ _ _ _ w_m1 f_m1 (by show (0 : Int) ≤ (x1).toInt; omega) (by show (x1).toInt ≤ (7 : Int); omega) (by show (0 : Int) ≤ (x2).toInt; omega) (by show (x2).toInt ≤ (7 : Int); omega) (by show (0 : Int) ≤ (v2).toInt; omega) (by show (v2).toInt ≤ (2 : Int); omega) (by show 0 * (x1).toInt < _; omega)
  · intro c8
    have k9 := y_ner (n := 0) rfl c8
    refine ⟨?_, ?_⟩
    · intro c10
      have k11 := y_ler (n := 0) rfl c10
      refine (s_X12_winner w (by show (0 : Int) ≤ (x1).toInt; omega) (by show (x1).toInt ≤ (7 : Int); omega) (by show (0 : Int) ≤ (x2).toInt; omega) (by show (x2).toInt ≤ (7 : Int); omega)).to ?_
      rintro _ m3 ⟨w_m3, g12, v4, rfl, p13, p14⟩
      have f_m3 : Fx (RS [22, 24, 28, 49]) m m3 := f.tr g12 (RS_sub rfl)
      have e15 : (m3.1 187 1).toInt = ((m.1 187 1)).toInt := congrArg _ (g12.at (a := 187) (k := 1) (by decide))
      have e16 : (m3.1 187 0).toInt = ((m.1 187 0)).toInt := congrArg _ (g12.at (a := 187) (k := 0) (by decide))
      refine ⟨v4, rfl, ?_⟩
      exact (l_X12_goGame (m0 := m) 1000000) _ _ _ _ _ w_m3 f_m3 (by show (0 : Int) ≤ (x1).toInt; omega) (by show (x1).toInt ≤ (7 : Int); omega) (by show (0 : Int) ≤ (x2).toInt; omega) (by show (x2).toInt ≤ (7 : Int); omega) (by show (0 : Int) ≤ (v4).toInt; omega) (by show (v4).toInt ≤ (2 : Int); omega) (by show 0 * (x1).toInt < _; omega)
    · intro c17
      have k18 := y_nler (n := 0) rfl c17
      refine ⟨?_, ?_⟩
      · intro c19
        have k20 := y_ner (n := 0) rfl c19
        refine (s_X12_winner w (by show (0 : Int) ≤ (x1).toInt; omega) (by show (x1).toInt ≤ (7 : Int); omega) (by show (0 : Int) ≤ (x2).toInt; omega) (by show (x2).toInt ≤ (7 : Int); omega)).to ?_
        rintro _ m5 ⟨w_m5, g21, v6, rfl, p22, p23⟩
        have f_m5 : Fx (RS [22, 24, 28, 49]) m m5 := f.tr g21 (RS_sub rfl)
        have e24 : (m5.1 187 1).toInt = ((m.1 187 1)).toInt := congrArg _ (g21.at (a := 187) (k := 1) (by decide))
        have e25 : (m5.1 187 0).toInt = ((m.1 187 0)).toInt := congrArg _ (g21.at (a := 187) (k := 0) (by decide))
        refine ⟨v6, rfl, ?_⟩
        exact (l_X12_goGame (m0 := m) 1000000) _ _ _ _ _ w_m5 f_m5 (by show (0 : Int) ≤ (x1).toInt; omega) (by show (x1).toInt ≤ (7 : Int); omega) (by show (0 : Int) ≤ (x2).toInt; omega) (by show (x2).toInt ≤ (7 : Int); omega) (by show (0 : Int) ≤ (v6).toInt; omega) (by show (v6).toInt ≤ (2 : Int); omega) (by show 0 * (x1).toInt < _; omega)
      · intro c26
        have k27 := y_eqr (n := 0) rfl c26
        refine (s_X12_drawHundred w).to ?_
        rintro _ m7 ⟨w_m7, g28, v8, rfl⟩
        have f_m7 : Fx (RS [22, 24, 28, 49]) m m7 := f.tr g28 (RS_sub rfl)
        have e29 : (m7.1 187 1).toInt = ((m.1 187 1)).toInt := congrArg _ (g28.at (a := 187) (k := 1) (by decide))
        have e30 : (m7.1 187 0).toInt = ((m.1 187 0)).toInt := congrArg _ (g28.at (a := 187) (k := 0) (by decide))
        refine ⟨v8, rfl, ?_⟩
        refine (s_X12_chanceOf w_m7 (by show (0 : Int) ≤ (x1).toInt; omega) (by show (x1).toInt ≤ (7 : Int); omega) (by show (0 : Int) ≤ (x2).toInt; omega) (by show (x2).toInt ≤ (7 : Int); omega)).to ?_
        rintro _ m9 ⟨w_m9, g31, v10, rfl, p32, p33⟩
        have f_m9 : Fx (RS [22, 24, 28, 49]) m m9 := f_m7.tr g31 (RS_sub rfl)
        have e34 : (m9.1 187 1).toInt = ((m7.1 187 1)).toInt := congrArg _ (g31.at (a := 187) (k := 1) (by decide))
        have e35 : (m9.1 187 0).toInt = ((m7.1 187 0)).toInt := congrArg _ (g31.at (a := 187) (k := 0) (by decide))
        refine ⟨v10, rfl, ?_⟩
        refine ⟨?_, ?_⟩
        · intro c36
          have k37 := z_le c36
          exact (l_X12_goGame (m0 := m) 1000000) _ _ _ _ _ w_m9 f_m9 (by show (0 : Int) ≤ (x1).toInt; omega) (by show (x1).toInt ≤ (7 : Int); omega) (by show (0 : Int) ≤ (x2).toInt; omega) (by show (x2).toInt ≤ (7 : Int); omega) (by show (0 : Int) ≤ (1 : Int); omega) (by show (1 : Int) ≤ (2 : Int); omega) (by show 0 * (x1).toInt < _; omega)
        · intro c38
          have k39 := z_nle c38
          exact (l_X12_goGame (m0 := m) 1000000) _ _ _ _ _ w_m9 f_m9 (by show (0 : Int) ≤ (x1).toInt; omega) (by show (x1).toInt ≤ (7 : Int); omega) (by show (0 : Int) ≤ (x2).toInt; omega) (by show (x2).toInt ≤ (7 : Int); omega) (by show (0 : Int) ≤ (0 : Int); omega) (by show (0 : Int) ≤ (2 : Int); omega) (by show 0 * (x1).toInt < _; omega)
