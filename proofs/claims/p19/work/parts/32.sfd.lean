/-! SAFETY OF THE CLASS, BY PROGRAM (X5_emit .. X5_compile) -/
set_option maxHeartbeats 4000000 in
theorem s_X5_emit_5 {ad : Nat → Nat} {d : Nat} {m : Wm} {x1 : Int32} (w : WT m) : Ct ad μX5_emit d [.ref (ad 5), .int x1] m (fun r m' => WT m' ∧ Fx (RS [1]) m m' ∧ r = none ∧ ((m'.1 5 6).toInt = (m.1 5 6).toInt)) := by
  have f : Fx (RS [1]) m m := Fx.rf
  refine v_X5_emit Ru_5 ?_
  refine ⟨?_, ?_⟩
  · intro c1
    have r2 := w.at (a := 5) (k := 4) rfl
    have k3 := y_lel (n := 40) rfl c1
    have r4 := w.at (a := 5) (k := 6) rfl
    exact ⟨w, f, rfl, (by show ((m.1 5 6)).toInt = (m.1 5 6).toInt; omega)⟩
  · intro c5
    have r6 := w.at (a := 5) (k := 4) rfl
    have k7 := y_nlel (n := 40) rfl c5
    refine ⟨?_, ?_⟩
    · exact vpi (by omega) (by omega)
    · have w8 : WT (uI m (5 + 1) ((m.1 5 4).toNatClampNeg) x1) := w.n rfl
      have f8 : Fx (RS [1]) m (uI m (5 + 1) ((m.1 5 4).toNatClampNeg) x1) := f.i rfl
      have t10 := ti_addc (x := (m.1 5 4)) (y := (1 : Int32)) (c := 1) rfl (by omega)
      have w9 : WT (uI (uI m (5 + 1) ((m.1 5 4).toNatClampNeg) x1) 5 4 (((uI m (5 + 1) ((m.1 5 4).toNatClampNeg) x1).1 5 4) + (1 : Int32))) := w8.t rfl (by show (0 : Int) ≤ (((m.1 5 4) + (1 : Int32))).toInt; omega) (by show (((m.1 5 4) + (1 : Int32))).toInt ≤ 40; omega)
      have f9 : Fx (RS [1]) m (uI (uI m (5 + 1) ((m.1 5 4).toNatClampNeg) x1) 5 4 (((uI m (5 + 1) ((m.1 5 4).toNatClampNeg) x1).1 5 4) + (1 : Int32))) := f8.i rfl
      have r11 := w.at (a := 5) (k := 6) rfl
      exact ⟨w9, f9, rfl, (by show ((m.1 5 6)).toInt = (m.1 5 6).toInt; omega)⟩
set_option maxHeartbeats 4000000 in
theorem s_X5_emit_10 {ad : Nat → Nat} {d : Nat} {m : Wm} {x1 : Int32} (w : WT m) : Ct ad μX5_emit d [.ref (ad 10), .int x1] m (fun r m' => WT m' ∧ Fx (RS [1]) m m' ∧ r = none ∧ ((m'.1 10 6).toInt = (m.1 10 6).toInt)) := by
  have f : Fx (RS [1]) m m := Fx.rf
  refine v_X5_emit Ru_10 ?_
  refine ⟨?_, ?_⟩
  · intro c1
    have r2 := w.at (a := 10) (k := 4) rfl
    have k3 := y_lel (n := 40) rfl c1
    have r4 := w.at (a := 10) (k := 6) rfl
    exact ⟨w, f, rfl, (by show ((m.1 10 6)).toInt = (m.1 10 6).toInt; omega)⟩
  · intro c5
    have r6 := w.at (a := 10) (k := 4) rfl
    have k7 := y_nlel (n := 40) rfl c5
    refine ⟨?_, ?_⟩
    · exact vpi (by omega) (by omega)
    · have w8 : WT (uI m (10 + 1) ((m.1 10 4).toNatClampNeg) x1) := w.n rfl
      have f8 : Fx (RS [1]) m (uI m (10 + 1) ((m.1 10 4).toNatClampNeg) x1) := f.i rfl
      have t10 := ti_addc (x := (m.1 10 4)) (y := (1 : Int32)) (c := 1) rfl (by omega)
      have w9 : WT (uI (uI m (10 + 1) ((m.1 10 4).toNatClampNeg) x1) 10 4 (((uI m (10 + 1) ((m.1 10 4).toNatClampNeg) x1).1 10 4) + (1 : Int32))) := w8.t rfl (by show (0 : Int) ≤ (((m.1 10 4) + (1 : Int32))).toInt; omega) (by show (((m.1 10 4) + (1 : Int32))).toInt ≤ 40; omega)
      have f9 : Fx (RS [1]) m (uI (uI m (10 + 1) ((m.1 10 4).toNatClampNeg) x1) 10 4 (((uI m (10 + 1) ((m.1 10 4).toNatClampNeg) x1).1 10 4) + (1 : Int32))) := f8.i rfl
      have r11 := w.at (a := 10) (k := 6) rfl
      exact ⟨w9, f9, rfl, (by show ((m.1 10 6)).toInt = (m.1 10 6).toInt; omega)⟩
theorem s_X5_emit {ad : Nat → Nat} {d : Nat} {m : Wm} {b0 : Nat} {x1 : Int32} (w : WT m) (hb0 : b0 = 5 ∨ b0 = 10) : Ct ad μX5_emit d [.ref (ad b0), .int x1] m (fun r m' => WT m' ∧ Fx (RS [1]) m m' ∧ r = none ∧ ((m'.1 b0 6).toInt = (m.1 b0 6).toInt)) := by
  rcases hb0 with rfl | rfl
  · exact s_X5_emit_5 w
  · exact s_X5_emit_10 w
set_option maxHeartbeats 4000000 in
theorem s_X5_hold_5 {ad : Nat → Nat} {d : Nat} {m : Wm} {x1 : Int32} (w : WT m) : Ct ad μX5_hold d [.ref (ad 5), .int x1] m (fun r m' => WT m' ∧ Fx (RS [1]) m m' ∧ r = none) := by
  have f : Fx (RS [1]) m m := Fx.rf
  refine v_X5_hold Ru_5 ?_
  refine ⟨?_, ?_⟩
  · intro c1
    have r2 := w.at (a := 5) (k := 5) rfl
    have k3 := y_lel (n := 40) rfl c1
    exact ⟨w, f, rfl⟩
  · intro c4
    have r5 := w.at (a := 5) (k := 5) rfl
    have k6 := y_nlel (n := 40) rfl c4
    refine ⟨?_, ?_⟩
    · exact vpi (by omega) (by omega)
    · have w7 : WT (uI m (5 + 3) ((m.1 5 5).toNatClampNeg) x1) := w.n rfl
      have f7 : Fx (RS [1]) m (uI m (5 + 3) ((m.1 5 5).toNatClampNeg) x1) := f.i rfl
      have t9 := ti_addc (x := (m.1 5 5)) (y := (1 : Int32)) (c := 1) rfl (by omega)
      have w8 : WT (uI (uI m (5 + 3) ((m.1 5 5).toNatClampNeg) x1) 5 5 (((uI m (5 + 3) ((m.1 5 5).toNatClampNeg) x1).1 5 5) + (1 : Int32))) := w7.t rfl (by show (0 : Int) ≤ (((m.1 5 5) + (1 : Int32))).toInt; omega) (by show (((m.1 5 5) + (1 : Int32))).toInt ≤ 40; omega)
      have f8 : Fx (RS [1]) m (uI (uI m (5 + 3) ((m.1 5 5).toNatClampNeg) x1) 5 5 (((uI m (5 + 3) ((m.1 5 5).toNatClampNeg) x1).1 5 5) + (1 : Int32))) := f7.i rfl
      exact ⟨w8, f8, rfl⟩
set_option maxHeartbeats 4000000 in
theorem s_X5_hold_10 {ad : Nat → Nat} {d : Nat} {m : Wm} {x1 : Int32} (w : WT m) : Ct ad μX5_hold d [.ref (ad 10), .int x1] m (fun r m' => WT m' ∧ Fx (RS [1]) m m' ∧ r = none) := by
  have f : Fx (RS [1]) m m := Fx.rf
  refine v_X5_hold Ru_10 ?_
  refine ⟨?_, ?_⟩
  · intro c1
    have r2 := w.at (a := 10) (k := 5) rfl
    have k3 := y_lel (n := 40) rfl c1
    exact ⟨w, f, rfl⟩
  · intro c4
    have r5 := w.at (a := 10) (k := 5) rfl
    have k6 := y_nlel (n := 40) rfl c4
    refine ⟨?_, ?_⟩
    · exact vpi (by omega) (by omega)
    · have w7 : WT (uI m (10 + 3) ((m.1 10 5).toNatClampNeg) x1) := w.n rfl
      have f7 : Fx (RS [1]) m (uI m (10 + 3) ((m.1 10 5).toNatClampNeg) x1) := f.i rfl
      have t9 := ti_addc (x := (m.1 10 5)) (y := (1 : Int32)) (c := 1) rfl (by omega)
      have w8 : WT (uI (uI m (10 + 3) ((m.1 10 5).toNatClampNeg) x1) 10 5 (((uI m (10 + 3) ((m.1 10 5).toNatClampNeg) x1).1 10 5) + (1 : Int32))) := w7.t rfl (by show (0 : Int) ≤ (((m.1 10 5) + (1 : Int32))).toInt; omega) (by show (((m.1 10 5) + (1 : Int32))).toInt ≤ 40; omega)
      have f8 : Fx (RS [1]) m (uI (uI m (10 + 3) ((m.1 10 5).toNatClampNeg) x1) 10 5 (((uI m (10 + 3) ((m.1 10 5).toNatClampNeg) x1).1 10 5) + (1 : Int32))) := f7.i rfl
      exact ⟨w8, f8, rfl⟩
theorem s_X5_hold {ad : Nat → Nat} {d : Nat} {m : Wm} {b0 : Nat} {x1 : Int32} (w : WT m) (hb0 : b0 = 5 ∨ b0 = 10) : Ct ad μX5_hold d [.ref (ad b0), .int x1] m (fun r m' => WT m' ∧ Fx (RS [1]) m m' ∧ r = none) := by
  rcases hb0 with rfl | rfl
  · exact s_X5_hold_5 w
  · exact s_X5_hold_10 w
set_option maxHeartbeats 4000000 in
theorem l_X5_release_5 {ad : Nat → Nat} {d : Nat} {m0 : Wm}  : ∀ n : Nat, (∀ (m : Wm) (x1 x2 : Int32), WT m → Fx (RS [1]) m0 m → (-1 : Int) ≤ x2.toInt → x2.toInt ≤ (39 : Int) → ((m.1 5 6).toInt = (m0.1 5 6).toInt) → x2.toInt + 1 < (n : Int) → AW ad E0 μX5_release (d + 1) (fun r m' => WT m' ∧ Fx (RS [1]) m0 m' ∧ r = none ∧ ((m'.1 5 6).toInt = (m0.1 5 6).toInt)) 7 [(0, .ref (ad 5)), (1, .int x1), (2, .int x2)] [] m) := by
  intro n
  induction n with
  | zero =>
    intros
    exfalso
    omega
  | succ n ih =>
    intro m x1 x2 w f j1 j2 j3 hn
    refine g_X5_release_7 Ru_5 ?_
    refine ⟨?_, ?_⟩
    · intro c1
      have k2 := y_ltr (n := 0) rfl c1
      have r3 := w.at (a := 5) (k := 6) rfl
      exact ⟨w, f, rfl, (by show ((m.1 5 6)).toInt = (m0.1 5 6).toInt; omega)⟩
    · intro c4
      have k5 := y_nltr (n := 0) rfl c4
      refine ⟨?_, ?_⟩
      · exact vpi (by omega) (by omega)
      · refine (s_X5_rank w).to ?_
        rintro _ m1 ⟨w_m1, g6, v2, rfl, p7, p8⟩
        have f_m1 : Fx (RS [1]) m0 m1 := f.tr g6 (RS_sub rfl)
        have e9 : (m1.1 5 6).toInt = ((m.1 5 6)).toInt := congrArg _ (g6.at (a := 5) (k := 6) (by decide))
        refine ⟨v2, rfl, ?_⟩
        refine ⟨?_, ?_⟩
        · intro c10
          have k11 := z_le c10
          refine ⟨?_, ?_⟩
          · exact vpi (by omega) (by omega)
          · refine (s_X5_emit w_m1 (Or.inl rfl)).to ?_
            rintro _ m3 ⟨w_m3, g12, rfl, p13⟩
            have f_m3 : Fx (RS [1]) m0 m3 := f_m1.tr g12 (RS_sub rfl)
            have p14 : (m3.1 5 6).toInt = ((m1.1 5 6)).toInt := p13
            clear p13
            refine ⟨rfl, ?_⟩
            have w15 : WT (uI m3 5 5 x2) := w_m3.t rfl (by show (0 : Int) ≤ (x2).toInt; omega) (by show (x2).toInt ≤ 40; omega)
            have f15 : Fx (RS [1]) m0 (uI m3 5 5 x2) := f_m3.i rfl
            have t16 := ti_addc (x := x2) (y := (-1 : Int32)) (c := -1) rfl (by omega)
            have r17 := w_m3.at (a := 5) (k := 6) rfl
            exact ih _ _ _ w15 f15 (by show (-1 : Int) ≤ ((x2 + (-1 : Int32))).toInt; omega) (by show ((x2 + (-1 : Int32))).toInt ≤ (39 : Int); omega) (by show ((m3.1 5 6)).toInt = (m0.1 5 6).toInt; omega) (by show ((x2 + (-1 : Int32))).toInt + 1 < _; omega)
        · intro c18
          have k19 := z_nle c18
          have r20 := w_m1.at (a := 5) (k := 6) rfl
          exact ⟨w_m1, f_m1, rfl, (by show ((m1.1 5 6)).toInt = (m0.1 5 6).toInt; omega)⟩
set_option maxHeartbeats 4000000 in
theorem s_X5_release_5 {ad : Nat → Nat} {d : Nat} {m : Wm} {x1 : Int32} (w : WT m) : Ct ad μX5_release (d + 1) [.ref (ad 5), .int x1] m (fun r m' => WT m' ∧ Fx (RS [1]) m m' ∧ r = none ∧ ((m'.1 5 6).toInt = (m.1 5 6).toInt)) := by
  have f : Fx (RS [1]) m m := Fx.rf
  refine v_X5_release Ru_5 ?_
  have r1 := w.at (a := 5) (k := 5) rfl
  have t2 := ti_subc (x := (m.1 5 5)) (y := (1 : Int32)) (c := 1) rfl (by omega)
  have r3 := w.at (a := 5) (k := 6) rfl
  exact (l_X5_release_5 (m0 := m) 1000000) _ _ _ w f (by show (-1 : Int) ≤ (((m.1 5 5) - (1 : Int32))).toInt; omega) (by show (((m.1 5 5) - (1 : Int32))).toInt ≤ (39 : Int); omega) (by show ((m.1 5 6)).toInt = (m.1 5 6).toInt; omega) (by show (((m.1 5 5) - (1 : Int32))).toInt + 1 < _; omega)
set_option maxHeartbeats 4000000 in
theorem l_X5_release_10 {ad : Nat → Nat} {d : Nat} {m0 : Wm}  : ∀ n : Nat, (∀ (m : Wm) (x1 x2 : Int32), WT m → Fx (RS [1]) m0 m → (-1 : Int) ≤ x2.toInt → x2.toInt ≤ (39 : Int) → ((m.1 10 6).toInt = (m0.1 10 6).toInt) → x2.toInt + 1 < (n : Int) → AW ad E0 μX5_release (d + 1) (fun r m' => WT m' ∧ Fx (RS [1]) m0 m' ∧ r = none ∧ ((m'.1 10 6).toInt = (m0.1 10 6).toInt)) 7 [(0, .ref (ad 10)), (1, .int x1), (2, .int x2)] [] m) := by
  intro n
  induction n with
  | zero =>
    intros
    exfalso
    omega
  | succ n ih =>
    intro m x1 x2 w f j1 j2 j3 hn
    refine g_X5_release_7 Ru_10 ?_
    refine ⟨?_, ?_⟩
    · intro c1
      have k2 := y_ltr (n := 0) rfl c1
      have r3 := w.at (a := 10) (k := 6) rfl
      exact ⟨w, f, rfl, (by show ((m.1 10 6)).toInt = (m0.1 10 6).toInt; omega)⟩
    · intro c4
      have k5 := y_nltr (n := 0) rfl c4
      refine ⟨?_, ?_⟩
      · exact vpi (by omega) (by omega)
      · refine (s_X5_rank w).to ?_
        rintro _ m1 ⟨w_m1, g6, v2, rfl, p7, p8⟩
        have f_m1 : Fx (RS [1]) m0 m1 := f.tr g6 (RS_sub rfl)
        have e9 : (m1.1 10 6).toInt = ((m.1 10 6)).toInt := congrArg _ (g6.at (a := 10) (k := 6) (by decide))
        refine ⟨v2, rfl, ?_⟩
        refine ⟨?_, ?_⟩
        · intro c10
          have k11 := z_le c10
          refine ⟨?_, ?_⟩
          · exact vpi (by omega) (by omega)
          · refine (s_X5_emit w_m1 (Or.inr rfl)).to ?_
            rintro _ m3 ⟨w_m3, g12, rfl, p13⟩
            have f_m3 : Fx (RS [1]) m0 m3 := f_m1.tr g12 (RS_sub rfl)
            have p14 : (m3.1 10 6).toInt = ((m1.1 10 6)).toInt := p13
            clear p13
            refine ⟨rfl, ?_⟩
            have w15 : WT (uI m3 10 5 x2) := w_m3.t rfl (by show (0 : Int) ≤ (x2).toInt; omega) (by show (x2).toInt ≤ 40; omega)
            have f15 : Fx (RS [1]) m0 (uI m3 10 5 x2) := f_m3.i rfl
            have t16 := ti_addc (x := x2) (y := (-1 : Int32)) (c := -1) rfl (by omega)
            have r17 := w_m3.at (a := 10) (k := 6) rfl
            exact ih _ _ _ w15 f15 (by show (-1 : Int) ≤ ((x2 + (-1 : Int32))).toInt; omega) (by show ((x2 + (-1 : Int32))).toInt ≤ (39 : Int); omega) (by show ((m3.1 10 6)).toInt = (m0.1 10 6).toInt; omega) (by show ((x2 + (-1 : Int32))).toInt + 1 < _; omega)
        · intro c18
          have k19 := z_nle c18
          have r20 := w_m1.at (a := 10) (k := 6) rfl
          exact ⟨w_m1, f_m1, rfl, (by show ((m1.1 10 6)).toInt = (m0.1 10 6).toInt; omega)⟩
set_option maxHeartbeats 4000000 in
theorem s_X5_release_10 {ad : Nat → Nat} {d : Nat} {m : Wm} {x1 : Int32} (w : WT m) : Ct ad μX5_release (d + 1) [.ref (ad 10), .int x1] m (fun r m' => WT m' ∧ Fx (RS [1]) m m' ∧ r = none ∧ ((m'.1 10 6).toInt = (m.1 10 6).toInt)) := by
  have f : Fx (RS [1]) m m := Fx.rf
  refine v_X5_release Ru_10 ?_
  have r1 := w.at (a := 10) (k := 5) rfl
  have t2 := ti_subc (x := (m.1 10 5)) (y := (1 : Int32)) (c := 1) rfl (by omega)
  have r3 := w.at (a := 10) (k := 6) rfl
  exact (l_X5_release_10 (m0 := m) 1000000) _ _ _ w f (by show (-1 : Int) ≤ (((m.1 10 5) - (1 : Int32))).toInt; omega) (by show (((m.1 10 5) - (1 : Int32))).toInt ≤ (39 : Int); omega) (by show ((m.1 10 6)).toInt = (m.1 10 6).toInt; omega) (by show (((m.1 10 5) - (1 : Int32))).toInt + 1 < _; omega)
theorem s_X5_release {ad : Nat → Nat} {d : Nat} {m : Wm} {b0 : Nat} {x1 : Int32} (w : WT m) (hb0 : b0 = 5 ∨ b0 = 10) : Ct ad μX5_release (d + 1) [.ref (ad b0), .int x1] m (fun r m' => WT m' ∧ Fx (RS [1]) m m' ∧ r = none ∧ ((m'.1 b0 6).toInt = (m.1 b0 6).toInt)) := by
  rcases hb0 with rfl | rfl
  · exact s_X5_release_5 w
  · exact s_X5_release_10 w
set_option maxHeartbeats 4000000 in
theorem s_X5_takeDigit_5 {ad : Nat → Nat} {d : Nat} {m : Wm} {x1 : Int32} (w : WT m) : Ct ad μX5_takeDigit (d + 1) [.ref (ad 5), .int x1] m (fun r m' => WT m' ∧ Fx (RS [1]) m m' ∧ ∃ v : Int32, r = some (.int v) ∧ (0 : Int) ≤ v.toInt ∧ v.toInt ≤ 1) := by
  have f : Fx (RS [1]) m m := Fx.rf
  refine v_X5_takeDigit Ru_5 ?_
  refine ⟨?_, ?_⟩
  · intro c1
    have k2 := y_eqr (n := 0) rfl c1
    refine ⟨?_, ?_⟩
    · intro c3
      have k4 := y_eqr (n := 0) rfl c3
      exact ⟨w, f, _, rfl, (by show (0 : Int) ≤ (0 : Int); omega), (by show (0 : Int) ≤ (1 : Int); omega)⟩
    · intro c5
      have k6 := y_ner (n := 0) rfl c5
      refine ⟨?_, ?_⟩
      · intro c7
        have k8 := y_eqr (n := 3) rfl c7
        exact ⟨w, f, _, rfl, (by show (0 : Int) ≤ (0 : Int); omega), (by show (0 : Int) ≤ (1 : Int); omega)⟩
      · intro c9
        have k10 := y_ner (n := 3) rfl c9
        refine ⟨?_, ?_⟩
        · intro c11
          have r12 := w.at (a := 5) (k := 4) rfl
          have k13 := y_ner (n := 0) rfl c11
          refine ⟨?_, ?_⟩
          · have t14 := ti_subc (x := (m.1 5 4)) (y := (1 : Int32)) (c := 1) rfl (by omega)
            exact vpi (by omega) (by omega)
          · refine ⟨?_, ?_⟩
            · have t15 := ti_subc (x := (m.1 5 4)) (y := (1 : Int32)) (c := 1) rfl (by omega)
              exact vpi (by omega) (by omega)
            · have w16 : WT (uI m (5 + 1) (((m.1 5 4) - (1 : Int32)).toNatClampNeg) (((m.1 (5 + 1) (((m.1 5 4) - (1 : Int32)).toNatClampNeg)) * (10 : Int32)) + x1)) := w.n rfl
              have f16 : Fx (RS [1]) m (uI m (5 + 1) (((m.1 5 4) - (1 : Int32)).toNatClampNeg) (((m.1 (5 + 1) (((m.1 5 4) - (1 : Int32)).toNatClampNeg)) * (10 : Int32)) + x1)) := f.i rfl
              have w17 : WT (uI (uI m (5 + 1) (((m.1 5 4) - (1 : Int32)).toNatClampNeg) (((m.1 (5 + 1) (((m.1 5 4) - (1 : Int32)).toNatClampNeg)) * (10 : Int32)) + x1)) 5 7 (((uI m (5 + 1) (((m.1 5 4) - (1 : Int32)).toNatClampNeg) (((m.1 (5 + 1) (((m.1 5 4) - (1 : Int32)).toNatClampNeg)) * (10 : Int32)) + x1)).1 5 7) + (1 : Int32))) := w16.n rfl
              have f17 : Fx (RS [1]) m (uI (uI m (5 + 1) (((m.1 5 4) - (1 : Int32)).toNatClampNeg) (((m.1 (5 + 1) (((m.1 5 4) - (1 : Int32)).toNatClampNeg)) * (10 : Int32)) + x1)) 5 7 (((uI m (5 + 1) (((m.1 5 4) - (1 : Int32)).toNatClampNeg) (((m.1 (5 + 1) (((m.1 5 4) - (1 : Int32)).toNatClampNeg)) * (10 : Int32)) + x1)).1 5 7) + (1 : Int32))) := f16.i rfl
              exact ⟨w17, f17, _, rfl, (by show (0 : Int) ≤ (1 : Int); omega), (by show (1 : Int) ≤ (1 : Int); omega)⟩
        · intro c18
          have r19 := w.at (a := 5) (k := 4) rfl
          have k20 := y_eqr (n := 0) rfl c18
          exact ⟨w, f, _, rfl, (by show (0 : Int) ≤ (0 : Int); omega), (by show (0 : Int) ≤ (1 : Int); omega)⟩
  · intro c21
    have k22 := y_ner (n := 0) rfl c21
    refine (s_X5_emit w (Or.inl rfl)).to ?_
    rintro _ m1 ⟨w_m1, g23, rfl, p24⟩
    have f_m1 : Fx (RS [1]) m m1 := f.tr g23 (RS_sub rfl)
    have p25 : (m1.1 5 6).toInt = ((m.1 5 6)).toInt := p24
    clear p24
    refine ⟨rfl, ?_⟩
    have w26 : WT (uI m1 5 7 (1 : Int32)) := w_m1.n rfl
    have f26 : Fx (RS [1]) m (uI m1 5 7 (1 : Int32)) := f_m1.i rfl
    have w27 : WT (uI (uI m1 5 7 (1 : Int32)) 5 8 (0 : Int32)) := w26.n rfl
    have f27 : Fx (RS [1]) m (uI (uI m1 5 7 (1 : Int32)) 5 8 (0 : Int32)) := f26.i rfl
    exact ⟨w27, f27, _, rfl, (by show (0 : Int) ≤ (1 : Int); omega), (by show (1 : Int) ≤ (1 : Int); omega)⟩
set_option maxHeartbeats 4000000 in
theorem s_X5_takeDigit_10 {ad : Nat → Nat} {d : Nat} {m : Wm} {x1 : Int32} (w : WT m) : Ct ad μX5_takeDigit (d + 1) [.ref (ad 10), .int x1] m (fun r m' => WT m' ∧ Fx (RS [1]) m m' ∧ ∃ v : Int32, r = some (.int v) ∧ (0 : Int) ≤ v.toInt ∧ v.toInt ≤ 1) := by
  have f : Fx (RS [1]) m m := Fx.rf
  refine v_X5_takeDigit Ru_10 ?_
  refine ⟨?_, ?_⟩
  · intro c1
    have k2 := y_eqr (n := 0) rfl c1
    refine ⟨?_, ?_⟩
    · intro c3
      have k4 := y_eqr (n := 0) rfl c3
      exact ⟨w, f, _, rfl, (by show (0 : Int) ≤ (0 : Int); omega), (by show (0 : Int) ≤ (1 : Int); omega)⟩
    · intro c5
      have k6 := y_ner (n := 0) rfl c5
      refine ⟨?_, ?_⟩
      · intro c7
        have k8 := y_eqr (n := 3) rfl c7
        exact ⟨w, f, _, rfl, (by show (0 : Int) ≤ (0 : Int); omega), (by show (0 : Int) ≤ (1 : Int); omega)⟩
      · intro c9
        have k10 := y_ner (n := 3) rfl c9
        refine ⟨?_, ?_⟩
        · intro c11
          have r12 := w.at (a := 10) (k := 4) rfl
          have k13 := y_ner (n := 0) rfl c11
          refine ⟨?_, ?_⟩
          · have t14 := ti_subc (x := (m.1 10 4)) (y := (1 : Int32)) (c := 1) rfl (by omega)
            exact vpi (by omega) (by omega)
          · refine ⟨?_, ?_⟩
            · have t15 := ti_subc (x := (m.1 10 4)) (y := (1 : Int32)) (c := 1) rfl (by omega)
              exact vpi (by omega) (by omega)
            · have w16 : WT (uI m (10 + 1) (((m.1 10 4) - (1 : Int32)).toNatClampNeg) (((m.1 (10 + 1) (((m.1 10 4) - (1 : Int32)).toNatClampNeg)) * (10 : Int32)) + x1)) := w.n rfl
              have f16 : Fx (RS [1]) m (uI m (10 + 1) (((m.1 10 4) - (1 : Int32)).toNatClampNeg) (((m.1 (10 + 1) (((m.1 10 4) - (1 : Int32)).toNatClampNeg)) * (10 : Int32)) + x1)) := f.i rfl
              have w17 : WT (uI (uI m (10 + 1) (((m.1 10 4) - (1 : Int32)).toNatClampNeg) (((m.1 (10 + 1) (((m.1 10 4) - (1 : Int32)).toNatClampNeg)) * (10 : Int32)) + x1)) 10 7 (((uI m (10 + 1) (((m.1 10 4) - (1 : Int32)).toNatClampNeg) (((m.1 (10 + 1) (((m.1 10 4) - (1 : Int32)).toNatClampNeg)) * (10 : Int32)) + x1)).1 10 7) + (1 : Int32))) := w16.n rfl
              have f17 : Fx (RS [1]) m (uI (uI m (10 + 1) (((m.1 10 4) - (1 : Int32)).toNatClampNeg) (((m.1 (10 + 1) (((m.1 10 4) - (1 : Int32)).toNatClampNeg)) * (10 : Int32)) + x1)) 10 7 (((uI m (10 + 1) (((m.1 10 4) - (1 : Int32)).toNatClampNeg) (((m.1 (10 + 1) (((m.1 10 4) - (1 : Int32)).toNatClampNeg)) * (10 : Int32)) + x1)).1 10 7) + (1 : Int32))) := f16.i rfl
              exact ⟨w17, f17, _, rfl, (by show (0 : Int) ≤ (1 : Int); omega), (by show (1 : Int) ≤ (1 : Int); omega)⟩
        · intro c18
          have r19 := w.at (a := 10) (k := 4) rfl
          have k20 := y_eqr (n := 0) rfl c18
          exact ⟨w, f, _, rfl, (by show (0 : Int) ≤ (0 : Int); omega), (by show (0 : Int) ≤ (1 : Int); omega)⟩
  · intro c21
    have k22 := y_ner (n := 0) rfl c21
    refine (s_X5_emit w (Or.inr rfl)).to ?_
    rintro _ m1 ⟨w_m1, g23, rfl, p24⟩
    have f_m1 : Fx (RS [1]) m m1 := f.tr g23 (RS_sub rfl)
    have p25 : (m1.1 10 6).toInt = ((m.1 10 6)).toInt := p24
    clear p24
    refine ⟨rfl, ?_⟩
    have w26 : WT (uI m1 10 7 (1 : Int32)) := w_m1.n rfl
    have f26 : Fx (RS [1]) m (uI m1 10 7 (1 : Int32)) := f_m1.i rfl
    have w27 : WT (uI (uI m1 10 7 (1 : Int32)) 10 8 (0 : Int32)) := w26.n rfl
    have f27 : Fx (RS [1]) m (uI (uI m1 10 7 (1 : Int32)) 10 8 (0 : Int32)) := f26.i rfl
    exact ⟨w27, f27, _, rfl, (by show (0 : Int) ≤ (1 : Int); omega), (by show (1 : Int) ≤ (1 : Int); omega)⟩
theorem s_X5_takeDigit {ad : Nat → Nat} {d : Nat} {m : Wm} {b0 : Nat} {x1 : Int32} (w : WT m) (hb0 : b0 = 5 ∨ b0 = 10) : Ct ad μX5_takeDigit (d + 1) [.ref (ad b0), .int x1] m (fun r m' => WT m' ∧ Fx (RS [1]) m m' ∧ ∃ v : Int32, r = some (.int v) ∧ (0 : Int) ≤ v.toInt ∧ v.toInt ≤ 1) := by
  rcases hb0 with rfl | rfl
  · exact s_X5_takeDigit_5 w
  · exact s_X5_takeDigit_10 w
set_option maxHeartbeats 4000000 in
theorem s_X5_takeThing_5 {ad : Nat → Nat} {d : Nat} {m : Wm} {x1 : Int32} (w : WT m) : Ct ad μX5_takeThing (d + 1) [.ref (ad 5), .int x1] m (fun r m' => WT m' ∧ Fx (RS [1]) m m' ∧ ∃ v : Int32, r = some (.int v) ∧ (0 : Int) ≤ v.toInt ∧ v.toInt ≤ 1) := by
  have f : Fx (RS [1]) m m := Fx.rf
  refine v_X5_takeThing Ru_5 ?_
  refine ⟨?_, ?_⟩
  · intro c1
    have k2 := y_ner (n := 45) rfl c1
    refine ⟨?_, ?_⟩
    · intro c3
      have k4 := y_ner (n := 40) rfl c3
      refine (s_X5_isThing w).to ?_
      rintro _ m1 ⟨w_m1, g5, v2, rfl, p6, p7⟩
      have f_m1 : Fx (RS [1]) m m1 := f.tr g5 (RS_sub rfl)
      refine ⟨v2, rfl, ?_⟩
      refine ⟨?_, ?_⟩
      · intro c8
        have k9 := y_ner (n := 0) rfl c8
        refine (s_X5_emit w_m1 (Or.inl rfl)).to ?_
        rintro _ m3 ⟨w_m3, g10, rfl, p11⟩
        have f_m3 : Fx (RS [1]) m m3 := f_m1.tr g10 (RS_sub rfl)
        have p12 : (m3.1 5 6).toInt = ((m1.1 5 6)).toInt := p11
        clear p11
        refine ⟨rfl, ?_⟩
        have w13 : WT (uI m3 5 8 (0 : Int32)) := w_m3.n rfl
        have f13 : Fx (RS [1]) m (uI m3 5 8 (0 : Int32)) := f_m3.i rfl
        exact ⟨w13, f13, _, rfl, (by show (0 : Int) ≤ (1 : Int); omega), (by show (1 : Int) ≤ (1 : Int); omega)⟩
      · intro c14
        have k15 := y_eqr (n := 0) rfl c14
        exact ⟨w_m1, f_m1, _, rfl, (by show (0 : Int) ≤ (0 : Int); omega), (by show (0 : Int) ≤ (1 : Int); omega)⟩
    · intro c16
      have k17 := y_eqr (n := 40) rfl c16
      refine ⟨?_, ?_⟩
      · intro c18
        have r19 := w.at (a := 5) (k := 6) rfl
        have k20 := y_ltr (n := 4) rfl c18
        refine ⟨?_, ?_⟩
        · have t21 := ti_addc (x := (m.1 5 6)) (y := (1 : Int32)) (c := 1) rfl (by omega)
          show vp_in ((m.1 5 6) + (1 : Int32)) 5
          exact vpi (by omega) (by omega)
        · have t23 := ti_addc (x := (m.1 5 6)) (y := (1 : Int32)) (c := 1) rfl (by omega)
          have w22 : WT (uI m 5 6 ((m.1 5 6) + (1 : Int32))) := w.t rfl (by show (0 : Int) ≤ (((m.1 5 6) + (1 : Int32))).toInt; omega) (by show (((m.1 5 6) + (1 : Int32))).toInt ≤ 4; omega)
          have f22 : Fx (RS [1]) m (uI m 5 6 ((m.1 5 6) + (1 : Int32))) := f.i rfl
          have w24 : WT (uI (uI m 5 6 ((m.1 5 6) + (1 : Int32))) (5 + 4) (((uI m 5 6 ((m.1 5 6) + (1 : Int32))).1 5 6).toNatClampNeg) (vp_nar .boolean (0 : Int32))) := w22.n rfl
          have f24 : Fx (RS [1]) m (uI (uI m 5 6 ((m.1 5 6) + (1 : Int32))) (5 + 4) (((uI m 5 6 ((m.1 5 6) + (1 : Int32))).1 5 6).toNatClampNeg) (vp_nar .boolean (0 : Int32))) := f22.i rfl
          refine (s_X5_hold w24 (Or.inl rfl)).to ?_
          rintro _ m4 ⟨w_m4, g25, rfl⟩
          have f_m4 : Fx (RS [1]) m m4 := f24.tr g25 (RS_sub rfl)
          refine ⟨rfl, ?_⟩
          exact ⟨w_m4, f_m4, _, rfl, (by show (0 : Int) ≤ (1 : Int); omega), (by show (1 : Int) ≤ (1 : Int); omega)⟩
      · intro c26
        have r27 := w.at (a := 5) (k := 6) rfl
        have k28 := y_nltr (n := 4) rfl c26
        exact ⟨w, f, _, rfl, (by show (0 : Int) ≤ (0 : Int); omega), (by show (0 : Int) ≤ (1 : Int); omega)⟩
  · intro c29
    have k30 := y_eqr (n := 45) rfl c29
    refine (s_X5_hold w (Or.inl rfl)).to ?_
    rintro _ m5 ⟨w_m5, g31, rfl⟩
    have f_m5 : Fx (RS [1]) m m5 := f.tr g31 (RS_sub rfl)
    refine ⟨rfl, ?_⟩
    exact ⟨w_m5, f_m5, _, rfl, (by show (0 : Int) ≤ (1 : Int); omega), (by show (1 : Int) ≤ (1 : Int); omega)⟩
set_option maxHeartbeats 4000000 in
theorem s_X5_takeThing_10 {ad : Nat → Nat} {d : Nat} {m : Wm} {x1 : Int32} (w : WT m) : Ct ad μX5_takeThing (d + 1) [.ref (ad 10), .int x1] m (fun r m' => WT m' ∧ Fx (RS [1]) m m' ∧ ∃ v : Int32, r = some (.int v) ∧ (0 : Int) ≤ v.toInt ∧ v.toInt ≤ 1) := by
  have f : Fx (RS [1]) m m := Fx.rf
  refine v_X5_takeThing Ru_10 ?_
  refine ⟨?_, ?_⟩
  · intro c1
    have k2 := y_ner (n := 45) rfl c1
    refine ⟨?_, ?_⟩
    · intro c3
      have k4 := y_ner (n := 40) rfl c3
      refine (s_X5_isThing w).to ?_
      rintro _ m1 ⟨w_m1, g5, v2, rfl, p6, p7⟩
      have f_m1 : Fx (RS [1]) m m1 := f.tr g5 (RS_sub rfl)
      refine ⟨v2, rfl, ?_⟩
      refine ⟨?_, ?_⟩
      · intro c8
        have k9 := y_ner (n := 0) rfl c8
        refine (s_X5_emit w_m1 (Or.inr rfl)).to ?_
        rintro _ m3 ⟨w_m3, g10, rfl, p11⟩
        have f_m3 : Fx (RS [1]) m m3 := f_m1.tr g10 (RS_sub rfl)
        have p12 : (m3.1 10 6).toInt = ((m1.1 10 6)).toInt := p11
        clear p11
        refine ⟨rfl, ?_⟩
        have w13 : WT (uI m3 10 8 (0 : Int32)) := w_m3.n rfl
        have f13 : Fx (RS [1]) m (uI m3 10 8 (0 : Int32)) := f_m3.i rfl
        exact ⟨w13, f13, _, rfl, (by show (0 : Int) ≤ (1 : Int); omega), (by show (1 : Int) ≤ (1 : Int); omega)⟩
      · intro c14
        have k15 := y_eqr (n := 0) rfl c14
        exact ⟨w_m1, f_m1, _, rfl, (by show (0 : Int) ≤ (0 : Int); omega), (by show (0 : Int) ≤ (1 : Int); omega)⟩
    · intro c16
      have k17 := y_eqr (n := 40) rfl c16
      refine ⟨?_, ?_⟩
      · intro c18
        have r19 := w.at (a := 10) (k := 6) rfl
        have k20 := y_ltr (n := 4) rfl c18
        refine ⟨?_, ?_⟩
        · have t21 := ti_addc (x := (m.1 10 6)) (y := (1 : Int32)) (c := 1) rfl (by omega)
          show vp_in ((m.1 10 6) + (1 : Int32)) 5
          exact vpi (by omega) (by omega)
        · have t23 := ti_addc (x := (m.1 10 6)) (y := (1 : Int32)) (c := 1) rfl (by omega)
          have w22 : WT (uI m 10 6 ((m.1 10 6) + (1 : Int32))) := w.t rfl (by show (0 : Int) ≤ (((m.1 10 6) + (1 : Int32))).toInt; omega) (by show (((m.1 10 6) + (1 : Int32))).toInt ≤ 4; omega)
          have f22 : Fx (RS [1]) m (uI m 10 6 ((m.1 10 6) + (1 : Int32))) := f.i rfl
          have w24 : WT (uI (uI m 10 6 ((m.1 10 6) + (1 : Int32))) (10 + 4) (((uI m 10 6 ((m.1 10 6) + (1 : Int32))).1 10 6).toNatClampNeg) (vp_nar .boolean (0 : Int32))) := w22.n rfl
          have f24 : Fx (RS [1]) m (uI (uI m 10 6 ((m.1 10 6) + (1 : Int32))) (10 + 4) (((uI m 10 6 ((m.1 10 6) + (1 : Int32))).1 10 6).toNatClampNeg) (vp_nar .boolean (0 : Int32))) := f22.i rfl
          refine (s_X5_hold w24 (Or.inr rfl)).to ?_
          rintro _ m4 ⟨w_m4, g25, rfl⟩
          have f_m4 : Fx (RS [1]) m m4 := f24.tr g25 (RS_sub rfl)
          refine ⟨rfl, ?_⟩
          exact ⟨w_m4, f_m4, _, rfl, (by show (0 : Int) ≤ (1 : Int); omega), (by show (1 : Int) ≤ (1 : Int); omega)⟩
      · intro c26
        have r27 := w.at (a := 10) (k := 6) rfl
        have k28 := y_nltr (n := 4) rfl c26
        exact ⟨w, f, _, rfl, (by show (0 : Int) ≤ (0 : Int); omega), (by show (0 : Int) ≤ (1 : Int); omega)⟩
  · intro c29
    have k30 := y_eqr (n := 45) rfl c29
    refine (s_X5_hold w (Or.inr rfl)).to ?_
    rintro _ m5 ⟨w_m5, g31, rfl⟩
    have f_m5 : Fx (RS [1]) m m5 := f.tr g31 (RS_sub rfl)
    refine ⟨rfl, ?_⟩
    exact ⟨w_m5, f_m5, _, rfl, (by show (0 : Int) ≤ (1 : Int); omega), (by show (1 : Int) ≤ (1 : Int); omega)⟩
theorem s_X5_takeThing {ad : Nat → Nat} {d : Nat} {m : Wm} {b0 : Nat} {x1 : Int32} (w : WT m) (hb0 : b0 = 5 ∨ b0 = 10) : Ct ad μX5_takeThing (d + 1) [.ref (ad b0), .int x1] m (fun r m' => WT m' ∧ Fx (RS [1]) m m' ∧ ∃ v : Int32, r = some (.int v) ∧ (0 : Int) ≤ v.toInt ∧ v.toInt ≤ 1) := by
  rcases hb0 with rfl | rfl
  · exact s_X5_takeThing_5 w
  · exact s_X5_takeThing_10 w
set_option maxHeartbeats 4000000 in
theorem l_X5_takeJoin_5 {ad : Nat → Nat} {d : Nat} {m0 : Wm}  : ∀ n : Nat, (∀ (m : Wm) (x1 x2 : Int32), WT m → Fx (RS [1]) m0 m → 0 * x1.toInt + 1 < (n : Int) → AW ad E0 μX5_takeJoin (d + 2) (fun r m' => WT m' ∧ Fx (RS [1]) m0 m' ∧ ∃ v : Int32, r = some (.int v) ∧ (0 : Int) ≤ v.toInt ∧ v.toInt ≤ 1) 74 [(0, .ref (ad 5)), (1, .int x1), (2, .int x2)] [] m) ∧ (∀ (m : Wm) (x1 x2 : Int32), WT m → Fx (RS [1]) m0 m → 0 * x1.toInt < (n : Int) → AW ad E0 μX5_takeJoin (d + 2) (fun r m' => WT m' ∧ Fx (RS [1]) m0 m' ∧ ∃ v : Int32, r = some (.int v) ∧ (0 : Int) ≤ v.toInt ∧ v.toInt ≤ 1) 89 [(0, .ref (ad 5)), (1, .int x1), (2, .int x2)] [] m) := by
  intro n
  induction n with
  | zero =>
    refine ⟨?_, ?_⟩ <;> intros <;> exfalso <;> omega
  | succ n ih =>
    refine ⟨?_, ?_⟩
    · intro m x1 x2 w f  hn
      refine g_X5_takeJoin_74 Ru_5 ?_
      refine ⟨?_, ?_⟩
      · intro c1
        have k2 := y_ner (n := 1) rfl c1
        exact ih.2 _ _ _ w f (by show 0 * (x1).toInt < _; omega)
      · intro c3
        have k4 := y_eqr (n := 1) rfl c3
        refine ⟨?_, ?_⟩
        · have r5 := w.at (a := 5) (k := 6) rfl
          exact vpi (by omega) (by omega)
        · have w6 : WT (uI m (5 + 4) ((m.1 5 6).toNatClampNeg) (vp_nar .boolean (1 : Int32))) := w.n rfl
          have f6 : Fx (RS [1]) m0 (uI m (5 + 4) ((m.1 5 6).toNatClampNeg) (vp_nar .boolean (1 : Int32))) := f.i rfl
          exact ih.2 _ _ _ w6 f6 (by show 0 * (x1).toInt < _; omega)
    · intro m x1 x2 w f  hn
      refine g_X5_takeJoin_89 Ru_5 ?_
      refine (s_X5_release w (Or.inl rfl)).to ?_
      rintro _ m1 ⟨w_m1, g1, rfl, p2⟩
      have f_m1 : Fx (RS [1]) m0 m1 := f.tr g1 (RS_sub rfl)
      have p3 : (m1.1 5 6).toInt = ((m.1 5 6)).toInt := p2
      clear p2
      refine ⟨rfl, ?_⟩
      refine (s_X5_hold w_m1 (Or.inl rfl)).to ?_
      rintro _ m2 ⟨w_m2, g4, rfl⟩
      have f_m2 : Fx (RS [1]) m0 m2 := f_m1.tr g4 (RS_sub rfl)
      refine ⟨rfl, ?_⟩
      have w5 : WT (uI m2 5 8 (1 : Int32)) := w_m2.n rfl
      have f5 : Fx (RS [1]) m0 (uI m2 5 8 (1 : Int32)) := f_m2.i rfl
      exact ⟨w5, f5, _, rfl, (by show (0 : Int) ≤ (1 : Int); omega), (by show (1 : Int) ≤ (1 : Int); omega)⟩
set_option maxHeartbeats 4000000 in
theorem s_X5_takeJoin_5 {ad : Nat → Nat} {d : Nat} {m : Wm} {x1 : Int32} (w : WT m) : Ct ad μX5_takeJoin (d + 2) [.ref (ad 5), .int x1] m (fun r m' => WT m' ∧ Fx (RS [1]) m m' ∧ ∃ v : Int32, r = some (.int v) ∧ (0 : Int) ≤ v.toInt ∧ v.toInt ≤ 1) := by
  have f : Fx (RS [1]) m m := Fx.rf
  refine v_X5_takeJoin Ru_5 ?_
  refine ⟨?_, ?_⟩
  · intro c1
    have k2 := y_ner (n := 41) rfl c1
    refine (s_X5_rank w).to ?_
    rintro _ m1 ⟨w_m1, g3, v2, rfl, p4, p5⟩
    have f_m1 : Fx (RS [1]) m m1 := f.tr g3 (RS_sub rfl)
    refine ⟨v2, rfl, ?_⟩
    refine ⟨?_, ?_⟩
    · intro c6
      have k7 := y_eqr (n := 0) rfl c6
      exact ⟨w_m1, f_m1, _, rfl, (by show (0 : Int) ≤ (0 : Int); omega), (by show (0 : Int) ≤ (1 : Int); omega)⟩
    · intro c8
      have k9 := y_ner (n := 0) rfl c8
      refine ⟨?_, ?_⟩
      · intro c10
        have k11 := y_ner (n := 1) rfl c10
        exact (l_X5_takeJoin_5 (m0 := m) 1000000).1 _ _ _ w_m1 f_m1 (by show 0 * (x1).toInt + 1 < _; omega)
      · intro c12
        have k13 := y_eqr (n := 1) rfl c12
        refine ⟨?_, ?_⟩
        · have r14 := w_m1.at (a := 5) (k := 6) rfl
          exact vpi (by omega) (by omega)
        · refine ⟨?_, ?_⟩
          · intro c15
            have k16 := y_eqr (n := 0) rfl c15
            exact (l_X5_takeJoin_5 (m0 := m) 1000000).1 _ _ _ w_m1 f_m1 (by show 0 * (x1).toInt + 1 < _; omega)
          · intro c17
            have k18 := y_ner (n := 0) rfl c17
            exact ⟨w_m1, f_m1, _, rfl, (by show (0 : Int) ≤ (0 : Int); omega), (by show (0 : Int) ≤ (1 : Int); omega)⟩
  · intro c19
    have k20 := y_eqr (n := 41) rfl c19
    refine ⟨?_, ?_⟩
    · intro c21
      have r22 := w.at (a := 5) (k := 6) rfl
      have k23 := y_ner (n := 0) rfl c21
      refine (s_X5_release w (Or.inl rfl)).to ?_
      rintro _ m3 ⟨w_m3, g24, rfl, p25⟩
      have f_m3 : Fx (RS [1]) m m3 := f.tr g24 (RS_sub rfl)
      have p26 : (m3.1 5 6).toInt = ((m.1 5 6)).toInt := p25
      clear p25
      refine ⟨rfl, ?_⟩
      have r28 := w_m3.at (a := 5) (k := 5) rfl
      have t29 := ti_subc (x := (m3.1 5 5)) (y := (1 : Int32)) (c := 1) rfl (by omega)
      have t30 := ti_ltv (a := (0 : Int32)) (b := ((m3.1 5 5) - (1 : Int32))) (c := ((m3.1 5 5) - (1 : Int32))) (d := (0 : Int32)) (A := (0)) (B := ((m3.1 5 5) - (1 : Int32)).toInt) (C := ((m3.1 5 5) - (1 : Int32)).toInt) (D := (0)) rfl rfl rfl rfl
      have w27 : WT (uI m3 5 5 (if (0 : Int32) < ((m3.1 5 5) - (1 : Int32)) then ((m3.1 5 5) - (1 : Int32)) else (0 : Int32))) := w_m3.t rfl (by show (0 : Int) ≤ ((if (0 : Int32) < ((m3.1 5 5) - (1 : Int32)) then ((m3.1 5 5) - (1 : Int32)) else (0 : Int32))).toInt; omega) (by show ((if (0 : Int32) < ((m3.1 5 5) - (1 : Int32)) then ((m3.1 5 5) - (1 : Int32)) else (0 : Int32))).toInt ≤ 40; omega)
      have f27 : Fx (RS [1]) m (uI m3 5 5 (if (0 : Int32) < ((m3.1 5 5) - (1 : Int32)) then ((m3.1 5 5) - (1 : Int32)) else (0 : Int32))) := f_m3.i rfl
      have r32 := w_m3.at (a := 5) (k := 6) rfl
      have t33 := ti_subc (x := (m3.1 5 6)) (y := (1 : Int32)) (c := 1) rfl (by omega)
      have w31 : WT (uI (uI m3 5 5 (if (0 : Int32) < ((m3.1 5 5) - (1 : Int32)) then ((m3.1 5 5) - (1 : Int32)) else (0 : Int32))) 5 6 (((uI m3 5 5 (if (0 : Int32) < ((m3.1 5 5) - (1 : Int32)) then ((m3.1 5 5) - (1 : Int32)) else (0 : Int32))).1 5 6) - (1 : Int32))) := w27.t rfl (by show (0 : Int) ≤ (((m3.1 5 6) - (1 : Int32))).toInt; omega) (by show (((m3.1 5 6) - (1 : Int32))).toInt ≤ 4; omega)
      have f31 : Fx (RS [1]) m (uI (uI m3 5 5 (if (0 : Int32) < ((m3.1 5 5) - (1 : Int32)) then ((m3.1 5 5) - (1 : Int32)) else (0 : Int32))) 5 6 (((uI m3 5 5 (if (0 : Int32) < ((m3.1 5 5) - (1 : Int32)) then ((m3.1 5 5) - (1 : Int32)) else (0 : Int32))).1 5 6) - (1 : Int32))) := f27.i rfl
      exact ⟨w31, f31, _, rfl, (by show (0 : Int) ≤ (1 : Int); omega), (by show (1 : Int) ≤ (1 : Int); omega)⟩
    · intro c34
      have r35 := w.at (a := 5) (k := 6) rfl
      have k36 := y_eqr (n := 0) rfl c34
      exact ⟨w, f, _, rfl, (by show (0 : Int) ≤ (0 : Int); omega), (by show (0 : Int) ≤ (1 : Int); omega)⟩
set_option maxHeartbeats 4000000 in
theorem l_X5_takeJoin_10 {ad : Nat → Nat} {d : Nat} {m0 : Wm}  : ∀ n : Nat, (∀ (m : Wm) (x1 x2 : Int32), WT m → Fx (RS [1]) m0 m → 0 * x1.toInt + 1 < (n : Int) → AW ad E0 μX5_takeJoin (d + 2) (fun r m' => WT m' ∧ Fx (RS [1]) m0 m' ∧ ∃ v : Int32, r = some (.int v) ∧ (0 : Int) ≤ v.toInt ∧ v.toInt ≤ 1) 74 [(0, .ref (ad 10)), (1, .int x1), (2, .int x2)] [] m) ∧ (∀ (m : Wm) (x1 x2 : Int32), WT m → Fx (RS [1]) m0 m → 0 * x1.toInt < (n : Int) → AW ad E0 μX5_takeJoin (d + 2) (fun r m' => WT m' ∧ Fx (RS [1]) m0 m' ∧ ∃ v : Int32, r = some (.int v) ∧ (0 : Int) ≤ v.toInt ∧ v.toInt ≤ 1) 89 [(0, .ref (ad 10)), (1, .int x1), (2, .int x2)] [] m) := by
  intro n
  induction n with
  | zero =>
    refine ⟨?_, ?_⟩ <;> intros <;> exfalso <;> omega
  | succ n ih =>
    refine ⟨?_, ?_⟩
    · intro m x1 x2 w f  hn
      refine g_X5_takeJoin_74 Ru_10 ?_
      refine ⟨?_, ?_⟩
      · intro c1
        have k2 := y_ner (n := 1) rfl c1
        exact ih.2 _ _ _ w f (by show 0 * (x1).toInt < _; omega)
      · intro c3
        have k4 := y_eqr (n := 1) rfl c3
        refine ⟨?_, ?_⟩
        · have r5 := w.at (a := 10) (k := 6) rfl
          exact vpi (by omega) (by omega)
        · have w6 : WT (uI m (10 + 4) ((m.1 10 6).toNatClampNeg) (vp_nar .boolean (1 : Int32))) := w.n rfl
          have f6 : Fx (RS [1]) m0 (uI m (10 + 4) ((m.1 10 6).toNatClampNeg) (vp_nar .boolean (1 : Int32))) := f.i rfl
          exact ih.2 _ _ _ w6 f6 (by show 0 * (x1).toInt < _; omega)
    · intro m x1 x2 w f  hn
      refine g_X5_takeJoin_89 Ru_10 ?_
      refine (s_X5_release w (Or.inr rfl)).to ?_
      rintro _ m1 ⟨w_m1, g1, rfl, p2⟩
      have f_m1 : Fx (RS [1]) m0 m1 := f.tr g1 (RS_sub rfl)
      have p3 : (m1.1 10 6).toInt = ((m.1 10 6)).toInt := p2
      clear p2
      refine ⟨rfl, ?_⟩
      refine (s_X5_hold w_m1 (Or.inr rfl)).to ?_
      rintro _ m2 ⟨w_m2, g4, rfl⟩
      have f_m2 : Fx (RS [1]) m0 m2 := f_m1.tr g4 (RS_sub rfl)
      refine ⟨rfl, ?_⟩
      have w5 : WT (uI m2 10 8 (1 : Int32)) := w_m2.n rfl
      have f5 : Fx (RS [1]) m0 (uI m2 10 8 (1 : Int32)) := f_m2.i rfl
      exact ⟨w5, f5, _, rfl, (by show (0 : Int) ≤ (1 : Int); omega), (by show (1 : Int) ≤ (1 : Int); omega)⟩
set_option maxHeartbeats 4000000 in
theorem s_X5_takeJoin_10 {ad : Nat → Nat} {d : Nat} {m : Wm} {x1 : Int32} (w : WT m) : Ct ad μX5_takeJoin (d + 2) [.ref (ad 10), .int x1] m (fun r m' => WT m' ∧ Fx (RS [1]) m m' ∧ ∃ v : Int32, r = some (.int v) ∧ (0 : Int) ≤ v.toInt ∧ v.toInt ≤ 1) := by
  have f : Fx (RS [1]) m m := Fx.rf
  refine v_X5_takeJoin Ru_10 ?_
  refine ⟨?_, ?_⟩
  · intro c1
    have k2 := y_ner (n := 41) rfl c1
    refine (s_X5_rank w).to ?_
    rintro _ m1 ⟨w_m1, g3, v2, rfl, p4, p5⟩
    have f_m1 : Fx (RS [1]) m m1 := f.tr g3 (RS_sub rfl)
    refine ⟨v2, rfl, ?_⟩
    refine ⟨?_, ?_⟩
    · intro c6
      have k7 := y_eqr (n := 0) rfl c6
      exact ⟨w_m1, f_m1, _, rfl, (by show (0 : Int) ≤ (0 : Int); omega), (by show (0 : Int) ≤ (1 : Int); omega)⟩
    · intro c8
      have k9 := y_ner (n := 0) rfl c8
      refine ⟨?_, ?_⟩
      · intro c10
        have k11 := y_ner (n := 1) rfl c10
        exact (l_X5_takeJoin_10 (m0 := m) 1000000).1 _ _ _ w_m1 f_m1 (by show 0 * (x1).toInt + 1 < _; omega)
      · intro c12
        have k13 := y_eqr (n := 1) rfl c12
        refine ⟨?_, ?_⟩
        · have r14 := w_m1.at (a := 10) (k := 6) rfl
          exact vpi (by omega) (by omega)
        · refine ⟨?_, ?_⟩
          · intro c15
            have k16 := y_eqr (n := 0) rfl c15
            exact (l_X5_takeJoin_10 (m0 := m) 1000000).1 _ _ _ w_m1 f_m1 (by show 0 * (x1).toInt + 1 < _; omega)
          · intro c17
            have k18 := y_ner (n := 0) rfl c17
            exact ⟨w_m1, f_m1, _, rfl, (by show (0 : Int) ≤ (0 : Int); omega), (by show (0 : Int) ≤ (1 : Int); omega)⟩
  · intro c19
    have k20 := y_eqr (n := 41) rfl c19
    refine ⟨?_, ?_⟩
    · intro c21
      have r22 := w.at (a := 10) (k := 6) rfl
      have k23 := y_ner (n := 0) rfl c21
      refine (s_X5_release w (Or.inr rfl)).to ?_
      rintro _ m3 ⟨w_m3, g24, rfl, p25⟩
      have f_m3 : Fx (RS [1]) m m3 := f.tr g24 (RS_sub rfl)
      have p26 : (m3.1 10 6).toInt = ((m.1 10 6)).toInt := p25
      clear p25
      refine ⟨rfl, ?_⟩
      have r28 := w_m3.at (a := 10) (k := 5) rfl
      have t29 := ti_subc (x := (m3.1 10 5)) (y := (1 : Int32)) (c := 1) rfl (by omega)
      have t30 := ti_ltv (a := (0 : Int32)) (b := ((m3.1 10 5) - (1 : Int32))) (c := ((m3.1 10 5) - (1 : Int32))) (d := (0 : Int32)) (A := (0)) (B := ((m3.1 10 5) - (1 : Int32)).toInt) (C := ((m3.1 10 5) - (1 : Int32)).toInt) (D := (0)) rfl rfl rfl rfl
      have w27 : WT (uI m3 10 5 (if (0 : Int32) < ((m3.1 10 5) - (1 : Int32)) then ((m3.1 10 5) - (1 : Int32)) else (0 : Int32))) := w_m3.t rfl (by show (0 : Int) ≤ ((if (0 : Int32) < ((m3.1 10 5) - (1 : Int32)) then ((m3.1 10 5) - (1 : Int32)) else (0 : Int32))).toInt; omega) (by show ((if (0 : Int32) < ((m3.1 10 5) - (1 : Int32)) then ((m3.1 10 5) - (1 : Int32)) else (0 : Int32))).toInt ≤ 40; omega)
      have f27 : Fx (RS [1]) m (uI m3 10 5 (if (0 : Int32) < ((m3.1 10 5) - (1 : Int32)) then ((m3.1 10 5) - (1 : Int32)) else (0 : Int32))) := f_m3.i rfl
      have r32 := w_m3.at (a := 10) (k := 6) rfl
      have t33 := ti_subc (x := (m3.1 10 6)) (y := (1 : Int32)) (c := 1) rfl (by omega)
      have w31 : WT (uI (uI m3 10 5 (if (0 : Int32) < ((m3.1 10 5) - (1 : Int32)) then ((m3.1 10 5) - (1 : Int32)) else (0 : Int32))) 10 6 (((uI m3 10 5 (if (0 : Int32) < ((m3.1 10 5) - (1 : Int32)) then ((m3.1 10 5) - (1 : Int32)) else (0 : Int32))).1 10 6) - (1 : Int32))) := w27.t rfl (by show (0 : Int) ≤ (((m3.1 10 6) - (1 : Int32))).toInt; omega) (by show (((m3.1 10 6) - (1 : Int32))).toInt ≤ 4; omega)
      have f31 : Fx (RS [1]) m (uI (uI m3 10 5 (if (0 : Int32) < ((m3.1 10 5) - (1 : Int32)) then ((m3.1 10 5) - (1 : Int32)) else (0 : Int32))) 10 6 (((uI m3 10 5 (if (0 : Int32) < ((m3.1 10 5) - (1 : Int32)) then ((m3.1 10 5) - (1 : Int32)) else (0 : Int32))).1 10 6) - (1 : Int32))) := f27.i rfl
      exact ⟨w31, f31, _, rfl, (by show (0 : Int) ≤ (1 : Int); omega), (by show (1 : Int) ≤ (1 : Int); omega)⟩
    · intro c34
      have r35 := w.at (a := 10) (k := 6) rfl
      have k36 := y_eqr (n := 0) rfl c34
      exact ⟨w, f, _, rfl, (by show (0 : Int) ≤ (0 : Int); omega), (by show (0 : Int) ≤ (1 : Int); omega)⟩
theorem s_X5_takeJoin {ad : Nat → Nat} {d : Nat} {m : Wm} {b0 : Nat} {x1 : Int32} (w : WT m) (hb0 : b0 = 5 ∨ b0 = 10) : Ct ad μX5_takeJoin (d + 2) [.ref (ad b0), .int x1] m (fun r m' => WT m' ∧ Fx (RS [1]) m m' ∧ ∃ v : Int32, r = some (.int v) ∧ (0 : Int) ≤ v.toInt ∧ v.toInt ≤ 1) := by
  rcases hb0 with rfl | rfl
  · exact s_X5_takeJoin_5 w
  · exact s_X5_takeJoin_10 w
set_option maxHeartbeats 4000000 in
theorem l_X5_take_5 {ad : Nat → Nat} {d : Nat} {m0 : Wm}  : ∀ n : Nat, (∀ (m : Wm) (x1 : Int32), WT m → Fx (RS [1]) m0 m → 0 * x1.toInt < (n : Int) → AW ad E0 μX5_take (d + 3) (fun r m' => WT m' ∧ Fx (RS [1]) m0 m' ∧ ∃ v : Int32, r = some (.int v) ∧ (0 : Int) ≤ v.toInt ∧ v.toInt ≤ 1) 21 [(0, .ref (ad 5)), (1, .int x1)] [] m) := by
  intro n
  induction n with
  | zero =>
    intros
    exfalso
    omega
  | succ n ih =>
    intro m x1 w f  hn
    refine g_X5_take_21 Ru_5 ?_
    refine ⟨?_, ?_⟩
    · intro c1
      have c2 : (m.1 5 8) = (0 : Int32) := c1
      have k3 := y_eqr (n := 0) rfl c2
      have w4 : WT (uI m 5 7 (0 : Int32)) := w.n rfl
      have f4 : Fx (RS [1]) m0 (uI m 5 7 (0 : Int32)) := f.i rfl
      refine (s_X5_takeJoin w4 (Or.inl rfl)).to ?_
      rintro _ m1 ⟨w_m1, g5, v2, rfl, p6, p7⟩
      have f_m1 : Fx (RS [1]) m0 m1 := f4.tr g5 (RS_sub rfl)
      refine ⟨v2, rfl, ?_⟩
      refine ⟨?_, ?_⟩
      · exact bz_of (by omega) (by omega)
      · exact ⟨w_m1, f_m1, _, rfl, (by show (0 : Int) ≤ (v2).toInt; omega), (by show (v2).toInt ≤ (1 : Int); omega)⟩
    · intro c8
      have c9 : ¬ (m.1 5 8) = (0 : Int32) := c8
      have k10 := y_ner (n := 0) rfl c9
      have w11 : WT (uI m 5 7 (0 : Int32)) := w.n rfl
      have f11 : Fx (RS [1]) m0 (uI m 5 7 (0 : Int32)) := f.i rfl
      refine (s_X5_takeThing w11 (Or.inl rfl)).to ?_
      rintro _ m3 ⟨w_m3, g12, v4, rfl, p13, p14⟩
      have f_m3 : Fx (RS [1]) m0 m3 := f11.tr g12 (RS_sub rfl)
      refine ⟨v4, rfl, ?_⟩
      refine ⟨?_, ?_⟩
      · exact bz_of (by omega) (by omega)
      · exact ⟨w_m3, f_m3, _, rfl, (by show (0 : Int) ≤ (v4).toInt; omega), (by show (v4).toInt ≤ (1 : Int); omega)⟩
set_option maxHeartbeats 4000000 in
theorem s_X5_take_5 {ad : Nat → Nat} {d : Nat} {m : Wm} {x1 : Int32} (w : WT m) : Ct ad μX5_take (d + 3) [.ref (ad 5), .int x1] m (fun r m' => WT m' ∧ Fx (RS [1]) m m' ∧ ∃ v : Int32, r = some (.int v) ∧ (0 : Int) ≤ v.toInt ∧ v.toInt ≤ 1) := by
  have f : Fx (RS [1]) m m := Fx.rf
  refine v_X5_take Ru_5 ?_
  refine ⟨?_, ?_⟩
  · intro c1
    have k2 := y_ltr (n := 48) rfl c1
    exact (l_X5_take_5 (m0 := m) 1000000) _ _ w f (by show 0 * (x1).toInt < _; omega)
  · intro c3
    have k4 := y_nltr (n := 48) rfl c3
    refine ⟨?_, ?_⟩
    · intro c5
      have k6 := y_ltl (n := 57) rfl c5
      exact (l_X5_take_5 (m0 := m) 1000000) _ _ w f (by show 0 * (x1).toInt < _; omega)
    · intro c7
      have k8 := y_nltl (n := 57) rfl c7
      refine (s_X5_takeDigit w (Or.inl rfl)).to ?_
      rintro _ m1 ⟨w_m1, g9, v2, rfl, p10, p11⟩
      have f_m1 : Fx (RS [1]) m m1 := f.tr g9 (RS_sub rfl)
      refine ⟨v2, rfl, ?_⟩
      refine ⟨?_, ?_⟩
      · exact bz_of (by omega) (by omega)
      · exact ⟨w_m1, f_m1, _, rfl, (by show (0 : Int) ≤ (v2).toInt; omega), (by show (v2).toInt ≤ (1 : Int); omega)⟩
set_option maxHeartbeats 4000000 in
theorem l_X5_take_10 {ad : Nat → Nat} {d : Nat} {m0 : Wm}  : ∀ n : Nat, (∀ (m : Wm) (x1 : Int32), WT m → Fx (RS [1]) m0 m → 0 * x1.toInt < (n : Int) → AW ad E0 μX5_take (d + 3) (fun r m' => WT m' ∧ Fx (RS [1]) m0 m' ∧ ∃ v : Int32, r = some (.int v) ∧ (0 : Int) ≤ v.toInt ∧ v.toInt ≤ 1) 21 [(0, .ref (ad 10)), (1, .int x1)] [] m) := by
  intro n
  induction n with
  | zero =>
    intros
    exfalso
    omega
  | succ n ih =>
    intro m x1 w f  hn
    refine g_X5_take_21 Ru_10 ?_
    refine ⟨?_, ?_⟩
    · intro c1
      have c2 : (m.1 10 8) = (0 : Int32) := c1
      have k3 := y_eqr (n := 0) rfl c2
      have w4 : WT (uI m 10 7 (0 : Int32)) := w.n rfl
      have f4 : Fx (RS [1]) m0 (uI m 10 7 (0 : Int32)) := f.i rfl
      refine (s_X5_takeJoin w4 (Or.inr rfl)).to ?_
      rintro _ m1 ⟨w_m1, g5, v2, rfl, p6, p7⟩
      have f_m1 : Fx (RS [1]) m0 m1 := f4.tr g5 (RS_sub rfl)
      refine ⟨v2, rfl, ?_⟩
      refine ⟨?_, ?_⟩
      · exact bz_of (by omega) (by omega)
      · exact ⟨w_m1, f_m1, _, rfl, (by show (0 : Int) ≤ (v2).toInt; omega), (by show (v2).toInt ≤ (1 : Int); omega)⟩
    · intro c8
      have c9 : ¬ (m.1 10 8) = (0 : Int32) := c8
      have k10 := y_ner (n := 0) rfl c9
      have w11 : WT (uI m 10 7 (0 : Int32)) := w.n rfl
      have f11 : Fx (RS [1]) m0 (uI m 10 7 (0 : Int32)) := f.i rfl
      refine (s_X5_takeThing w11 (Or.inr rfl)).to ?_
      rintro _ m3 ⟨w_m3, g12, v4, rfl, p13, p14⟩
      have f_m3 : Fx (RS [1]) m0 m3 := f11.tr g12 (RS_sub rfl)
      refine ⟨v4, rfl, ?_⟩
      refine ⟨?_, ?_⟩
      · exact bz_of (by omega) (by omega)
      · exact ⟨w_m3, f_m3, _, rfl, (by show (0 : Int) ≤ (v4).toInt; omega), (by show (v4).toInt ≤ (1 : Int); omega)⟩
set_option maxHeartbeats 4000000 in
theorem s_X5_take_10 {ad : Nat → Nat} {d : Nat} {m : Wm} {x1 : Int32} (w : WT m) : Ct ad μX5_take (d + 3) [.ref (ad 10), .int x1] m (fun r m' => WT m' ∧ Fx (RS [1]) m m' ∧ ∃ v : Int32, r = some (.int v) ∧ (0 : Int) ≤ v.toInt ∧ v.toInt ≤ 1) := by
  have f : Fx (RS [1]) m m := Fx.rf
  refine v_X5_take Ru_10 ?_
  refine ⟨?_, ?_⟩
  · intro c1
    have k2 := y_ltr (n := 48) rfl c1
    exact (l_X5_take_10 (m0 := m) 1000000) _ _ w f (by show 0 * (x1).toInt < _; omega)
  · intro c3
    have k4 := y_nltr (n := 48) rfl c3
    refine ⟨?_, ?_⟩
    · intro c5
      have k6 := y_ltl (n := 57) rfl c5
      exact (l_X5_take_10 (m0 := m) 1000000) _ _ w f (by show 0 * (x1).toInt < _; omega)
    · intro c7
      have k8 := y_nltl (n := 57) rfl c7
      refine (s_X5_takeDigit w (Or.inr rfl)).to ?_
      rintro _ m1 ⟨w_m1, g9, v2, rfl, p10, p11⟩
      have f_m1 : Fx (RS [1]) m m1 := f.tr g9 (RS_sub rfl)
      refine ⟨v2, rfl, ?_⟩
      refine ⟨?_, ?_⟩
      · exact bz_of (by omega) (by omega)
      · exact ⟨w_m1, f_m1, _, rfl, (by show (0 : Int) ≤ (v2).toInt; omega), (by show (v2).toInt ≤ (1 : Int); omega)⟩
theorem s_X5_take {ad : Nat → Nat} {d : Nat} {m : Wm} {b0 : Nat} {x1 : Int32} (w : WT m) (hb0 : b0 = 5 ∨ b0 = 10) : Ct ad μX5_take (d + 3) [.ref (ad b0), .int x1] m (fun r m' => WT m' ∧ Fx (RS [1]) m m' ∧ ∃ v : Int32, r = some (.int v) ∧ (0 : Int) ≤ v.toInt ∧ v.toInt ≤ 1) := by
  rcases hb0 with rfl | rfl
  · exact s_X5_take_5 w
  · exact s_X5_take_10 w
set_option maxHeartbeats 4000000 in
theorem l_X5_compile_5 {ad : Nat → Nat} {d : Nat} {m0 : Wm}  : ∀ n : Nat, (∀ (m : Wm) (x2 x3 : Int32), WT m → Fx (RS [1]) m0 m → (0 : Int) ≤ x2.toInt → x2.toInt ≤ (40 : Int) → (0 : Int) ≤ x3.toInt → x3.toInt ≤ (40 : Int) → 40 - x3.toInt < (n : Int) → AW ad E0 μX5_compile (d + 4) (fun r m' => WT m' ∧ Fx (RS [1]) m0 m' ∧ ∃ v : Int32, r = some (.int v)) 53 [(0, .ref (ad 5)), (1, .ref (ad 1)), (2, .int x2), (3, .int x3)] [] m) := by
  intro n
  induction n with
  | zero =>
    intros
    exfalso
    omega
  | succ n ih =>
    intro m x2 x3 w f j1 j2 j3 j4 hn
    refine g_X5_compile_53 Ru_5 ?_
    refine ⟨?_, ?_⟩
    · intro c1
      have k2 := z_le c1
      refine ⟨?_, ?_⟩
      · intro c3
        have r4 := w.at (a := 1) (k := 1) rfl
        have k5 := y_ltl (n := 40) rfl c3
        exact ⟨w, f, _, rfl⟩
      · intro c6
        have r7 := w.at (a := 1) (k := 1) rfl
        have k8 := y_nltl (n := 40) rfl c6
        refine ⟨?_, ?_⟩
        · intro c9
          have k10 := y_ner (n := 0) rfl c9
          exact ⟨w, f, _, rfl⟩
        · intro c11
          have k12 := y_eqr (n := 0) rfl c11
          refine ⟨?_, ?_⟩
          · intro c13
            have r14 := w.at (a := 5) (k := 6) rfl
            have k15 := y_ler (n := 0) rfl c13
            refine (s_X5_release w (Or.inl rfl)).to ?_
            rintro _ m1 ⟨w_m1, g16, rfl, p17⟩
            have f_m1 : Fx (RS [1]) m0 m1 := f.tr g16 (RS_sub rfl)
            have p18 : (m1.1 5 6).toInt = ((m.1 5 6)).toInt := p17
            clear p17
            refine ⟨rfl, ?_⟩
            exact ⟨w_m1, f_m1, _, rfl⟩
          · intro c19
            have r20 := w.at (a := 5) (k := 6) rfl
            have k21 := y_nler (n := 0) rfl c19
            exact ⟨w, f, _, rfl⟩
    · intro c22
      have k23 := z_nle c22
      refine ⟨?_, ?_⟩
      · exact vpi (by omega) (by omega)
      · refine (s_X5_take w (Or.inl rfl)).to ?_
        rintro _ m2 ⟨w_m2, g24, v3, rfl, p25, p26⟩
        have f_m2 : Fx (RS [1]) m0 m2 := f.tr g24 (RS_sub rfl)
        refine ⟨v3, rfl, ?_⟩
        refine ⟨?_, ?_⟩
        · intro c27
          have k28 := y_ner (n := 0) rfl c27
          have t29 := ti_addc (x := x3) (y := (1 : Int32)) (c := 1) rfl (by omega)
          exact ih _ _ _ w_m2 f_m2 (by show (0 : Int) ≤ (x2).toInt; omega) (by show (x2).toInt ≤ (40 : Int); omega) (by show (0 : Int) ≤ ((x3 + (1 : Int32))).toInt; omega) (by show ((x3 + (1 : Int32))).toInt ≤ (40 : Int); omega) (by show 40 - ((x3 + (1 : Int32))).toInt < _; omega)
        · intro c30
          have k31 := y_eqr (n := 0) rfl c30
          exact ⟨w_m2, f_m2, _, rfl⟩
set_option maxHeartbeats 4000000 in
theorem s_X5_compile_5 {ad : Nat → Nat} {d : Nat} {m : Wm} (w : WT m) : Ct ad μX5_compile (d + 4) [.ref (ad 5), .ref (ad 1)] m (fun r m' => WT m' ∧ Fx (RS [1]) m m' ∧ ∃ v : Int32, r = some (.int v)) := by
  have f : Fx (RS [1]) m m := Fx.rf
  refine v_X5_compile Ru_5 ?_
  refine ⟨?_, ?_⟩
  · intro c1
    have r2 := w.at (a := 1) (k := 1) rfl
    have c3 : ¬ (m.1 1 1) = (0 : Int32) := c1
    have k4 := y_ner (n := 0) rfl c3
    have w5 : WT (uI m 5 4 (0 : Int32)) := w.t rfl (by show (0 : Int) ≤ (0 : Int); omega) (by show (0 : Int) ≤ 40; omega)
    have f5 : Fx (RS [1]) m (uI m 5 4 (0 : Int32)) := f.i rfl
    have w6 : WT (uI (uI m 5 4 (0 : Int32)) 5 5 (0 : Int32)) := w5.t rfl (by show (0 : Int) ≤ (0 : Int); omega) (by show (0 : Int) ≤ 40; omega)
    have f6 : Fx (RS [1]) m (uI (uI m 5 4 (0 : Int32)) 5 5 (0 : Int32)) := f5.i rfl
    have w7 : WT (uI (uI (uI m 5 4 (0 : Int32)) 5 5 (0 : Int32)) 5 6 (0 : Int32)) := w6.t rfl (by show (0 : Int) ≤ (0 : Int); omega) (by show (0 : Int) ≤ 4; omega)
    have f7 : Fx (RS [1]) m (uI (uI (uI m 5 4 (0 : Int32)) 5 5 (0 : Int32)) 5 6 (0 : Int32)) := f6.i rfl
    have w8 : WT (uI (uI (uI (uI m 5 4 (0 : Int32)) 5 5 (0 : Int32)) 5 6 (0 : Int32)) 5 7 (0 : Int32)) := w7.n rfl
    have f8 : Fx (RS [1]) m (uI (uI (uI (uI m 5 4 (0 : Int32)) 5 5 (0 : Int32)) 5 6 (0 : Int32)) 5 7 (0 : Int32)) := f7.i rfl
    have w9 : WT (uI (uI (uI (uI (uI m 5 4 (0 : Int32)) 5 5 (0 : Int32)) 5 6 (0 : Int32)) 5 7 (0 : Int32)) 5 8 (1 : Int32)) := w8.n rfl
    have f9 : Fx (RS [1]) m (uI (uI (uI (uI (uI m 5 4 (0 : Int32)) 5 5 (0 : Int32)) 5 6 (0 : Int32)) 5 7 (0 : Int32)) 5 8 (1 : Int32)) := f8.i rfl
    have w10 : WT (uI (uI (uI (uI (uI (uI m 5 4 (0 : Int32)) 5 5 (0 : Int32)) 5 6 (0 : Int32)) 5 7 (0 : Int32)) 5 8 (1 : Int32)) (5 + 4) ((0 : Int32).toNatClampNeg) (vp_nar .boolean (0 : Int32))) := w9.n rfl
    have f10 : Fx (RS [1]) m (uI (uI (uI (uI (uI (uI m 5 4 (0 : Int32)) 5 5 (0 : Int32)) 5 6 (0 : Int32)) 5 7 (0 : Int32)) 5 8 (1 : Int32)) (5 + 4) ((0 : Int32).toNatClampNeg) (vp_nar .boolean (0 : Int32))) := f9.i rfl
    have t11 := ti_ltv (a := (40 : Int32)) (b := (m.1 1 1)) (c := (40 : Int32)) (d := (m.1 1 1)) (A := (40)) (B := (m.1 1 1).toInt) (C := (40)) (D := (m.1 1 1).toInt) rfl rfl rfl rfl
    exact (l_X5_compile_5 (m0 := m) 1000000) _ _ _ w10 f10 (by show (0 : Int) ≤ ((if (40 : Int32) < (m.1 1 1) then (40 : Int32) else (m.1 1 1))).toInt; omega) (by show ((if (40 : Int32) < (m.1 1 1) then (40 : Int32) else (m.1 1 1))).toInt ≤ (40 : Int); omega) (by show (0 : Int) ≤ (0 : Int); omega) (by show (0 : Int) ≤ (40 : Int); omega) (by show 40 - (0 : Int) < _; omega)
  · intro c12
    have r13 := w.at (a := 1) (k := 1) rfl
    have c14 : (m.1 1 1) = (0 : Int32) := c12
    have k15 := y_eqr (n := 0) rfl c14
    have w16 : WT (uI m 5 4 (0 : Int32)) := w.t rfl (by show (0 : Int) ≤ (0 : Int); omega) (by show (0 : Int) ≤ 40; omega)
    have f16 : Fx (RS [1]) m (uI m 5 4 (0 : Int32)) := f.i rfl
    have w17 : WT (uI (uI m 5 4 (0 : Int32)) 5 5 (0 : Int32)) := w16.t rfl (by show (0 : Int) ≤ (0 : Int); omega) (by show (0 : Int) ≤ 40; omega)
    have f17 : Fx (RS [1]) m (uI (uI m 5 4 (0 : Int32)) 5 5 (0 : Int32)) := f16.i rfl
    have w18 : WT (uI (uI (uI m 5 4 (0 : Int32)) 5 5 (0 : Int32)) 5 6 (0 : Int32)) := w17.t rfl (by show (0 : Int) ≤ (0 : Int); omega) (by show (0 : Int) ≤ 4; omega)
    have f18 : Fx (RS [1]) m (uI (uI (uI m 5 4 (0 : Int32)) 5 5 (0 : Int32)) 5 6 (0 : Int32)) := f17.i rfl
    have w19 : WT (uI (uI (uI (uI m 5 4 (0 : Int32)) 5 5 (0 : Int32)) 5 6 (0 : Int32)) 5 7 (0 : Int32)) := w18.n rfl
    have f19 : Fx (RS [1]) m (uI (uI (uI (uI m 5 4 (0 : Int32)) 5 5 (0 : Int32)) 5 6 (0 : Int32)) 5 7 (0 : Int32)) := f18.i rfl
    have w20 : WT (uI (uI (uI (uI (uI m 5 4 (0 : Int32)) 5 5 (0 : Int32)) 5 6 (0 : Int32)) 5 7 (0 : Int32)) 5 8 (1 : Int32)) := w19.n rfl
    have f20 : Fx (RS [1]) m (uI (uI (uI (uI (uI m 5 4 (0 : Int32)) 5 5 (0 : Int32)) 5 6 (0 : Int32)) 5 7 (0 : Int32)) 5 8 (1 : Int32)) := f19.i rfl
    have w21 : WT (uI (uI (uI (uI (uI (uI m 5 4 (0 : Int32)) 5 5 (0 : Int32)) 5 6 (0 : Int32)) 5 7 (0 : Int32)) 5 8 (1 : Int32)) (5 + 4) ((0 : Int32).toNatClampNeg) (vp_nar .boolean (0 : Int32))) := w20.n rfl
    have f21 : Fx (RS [1]) m (uI (uI (uI (uI (uI (uI m 5 4 (0 : Int32)) 5 5 (0 : Int32)) 5 6 (0 : Int32)) 5 7 (0 : Int32)) 5 8 (1 : Int32)) (5 + 4) ((0 : Int32).toNatClampNeg) (vp_nar .boolean (0 : Int32))) := f20.i rfl
    exact ⟨w21, f21, _, rfl⟩
set_option maxHeartbeats 4000000 in
theorem l_X5_compile_10 {ad : Nat → Nat} {d : Nat} {m0 : Wm}  : ∀ n : Nat, (∀ (m : Wm) (x2 x3 : Int32), WT m → Fx (RS [1]) m0 m → (0 : Int) ≤ x2.toInt → x2.toInt ≤ (40 : Int) → (0 : Int) ≤ x3.toInt → x3.toInt ≤ (40 : Int) → 40 - x3.toInt < (n : Int) → AW ad E0 μX5_compile (d + 4) (fun r m' => WT m' ∧ Fx (RS [1]) m0 m' ∧ ∃ v : Int32, r = some (.int v)) 53 [(0, .ref (ad 10)), (1, .ref (ad 1)), (2, .int x2), (3, .int x3)] [] m) := by
  intro n
  induction n with
  | zero =>
    intros
    exfalso
    omega
  | succ n ih =>
    intro m x2 x3 w f j1 j2 j3 j4 hn
    refine g_X5_compile_53 Ru_10 ?_
    refine ⟨?_, ?_⟩
    · intro c1
      have k2 := z_le c1
      refine ⟨?_, ?_⟩
      · intro c3
        have r4 := w.at (a := 1) (k := 1) rfl
        have k5 := y_ltl (n := 40) rfl c3
        exact ⟨w, f, _, rfl⟩
      · intro c6
        have r7 := w.at (a := 1) (k := 1) rfl
        have k8 := y_nltl (n := 40) rfl c6
        refine ⟨?_, ?_⟩
        · intro c9
          have k10 := y_ner (n := 0) rfl c9
          exact ⟨w, f, _, rfl⟩
        · intro c11
          have k12 := y_eqr (n := 0) rfl c11
          refine ⟨?_, ?_⟩
          · intro c13
            have r14 := w.at (a := 10) (k := 6) rfl
            have k15 := y_ler (n := 0) rfl c13
            refine (s_X5_release w (Or.inr rfl)).to ?_
            rintro _ m1 ⟨w_m1, g16, rfl, p17⟩
            have f_m1 : Fx (RS [1]) m0 m1 := f.tr g16 (RS_sub rfl)
            have p18 : (m1.1 10 6).toInt = ((m.1 10 6)).toInt := p17
            clear p17
            refine ⟨rfl, ?_⟩
            exact ⟨w_m1, f_m1, _, rfl⟩
          · intro c19
            have r20 := w.at (a := 10) (k := 6) rfl
            have k21 := y_nler (n := 0) rfl c19
            exact ⟨w, f, _, rfl⟩
    · intro c22
      have k23 := z_nle c22
      refine ⟨?_, ?_⟩
      · exact vpi (by omega) (by omega)
      · refine (s_X5_take w (Or.inr rfl)).to ?_
        rintro _ m2 ⟨w_m2, g24, v3, rfl, p25, p26⟩
        have f_m2 : Fx (RS [1]) m0 m2 := f.tr g24 (RS_sub rfl)
        refine ⟨v3, rfl, ?_⟩
        refine ⟨?_, ?_⟩
        · intro c27
          have k28 := y_ner (n := 0) rfl c27
          have t29 := ti_addc (x := x3) (y := (1 : Int32)) (c := 1) rfl (by omega)
          exact ih _ _ _ w_m2 f_m2 (by show (0 : Int) ≤ (x2).toInt; omega) (by show (x2).toInt ≤ (40 : Int); omega) (by show (0 : Int) ≤ ((x3 + (1 : Int32))).toInt; omega) (by show ((x3 + (1 : Int32))).toInt ≤ (40 : Int); omega) (by show 40 - ((x3 + (1 : Int32))).toInt < _; omega)
        · intro c30
          have k31 := y_eqr (n := 0) rfl c30
          exact ⟨w_m2, f_m2, _, rfl⟩
set_option maxHeartbeats 4000000 in
theorem s_X5_compile_10 {ad : Nat → Nat} {d : Nat} {m : Wm} (w : WT m) : Ct ad μX5_compile (d + 4) [.ref (ad 10), .ref (ad 1)] m (fun r m' => WT m' ∧ Fx (RS [1]) m m' ∧ ∃ v : Int32, r = some (.int v)) := by
  have f : Fx (RS [1]) m m := Fx.rf
  refine v_X5_compile Ru_10 ?_
  refine ⟨?_, ?_⟩
  · intro c1
    have r2 := w.at (a := 1) (k := 1) rfl
    have c3 : ¬ (m.1 1 1) = (0 : Int32) := c1
    have k4 := y_ner (n := 0) rfl c3
    have w5 : WT (uI m 10 4 (0 : Int32)) := w.t rfl (by show (0 : Int) ≤ (0 : Int); omega) (by show (0 : Int) ≤ 40; omega)
    have f5 : Fx (RS [1]) m (uI m 10 4 (0 : Int32)) := f.i rfl
    have w6 : WT (uI (uI m 10 4 (0 : Int32)) 10 5 (0 : Int32)) := w5.t rfl (by show (0 : Int) ≤ (0 : Int); omega) (by show (0 : Int) ≤ 40; omega)
    have f6 : Fx (RS [1]) m (uI (uI m 10 4 (0 : Int32)) 10 5 (0 : Int32)) := f5.i rfl
    have w7 : WT (uI (uI (uI m 10 4 (0 : Int32)) 10 5 (0 : Int32)) 10 6 (0 : Int32)) := w6.t rfl (by show (0 : Int) ≤ (0 : Int); omega) (by show (0 : Int) ≤ 4; omega)
    have f7 : Fx (RS [1]) m (uI (uI (uI m 10 4 (0 : Int32)) 10 5 (0 : Int32)) 10 6 (0 : Int32)) := f6.i rfl
    have w8 : WT (uI (uI (uI (uI m 10 4 (0 : Int32)) 10 5 (0 : Int32)) 10 6 (0 : Int32)) 10 7 (0 : Int32)) := w7.n rfl
    have f8 : Fx (RS [1]) m (uI (uI (uI (uI m 10 4 (0 : Int32)) 10 5 (0 : Int32)) 10 6 (0 : Int32)) 10 7 (0 : Int32)) := f7.i rfl
    have w9 : WT (uI (uI (uI (uI (uI m 10 4 (0 : Int32)) 10 5 (0 : Int32)) 10 6 (0 : Int32)) 10 7 (0 : Int32)) 10 8 (1 : Int32)) := w8.n rfl
    have f9 : Fx (RS [1]) m (uI (uI (uI (uI (uI m 10 4 (0 : Int32)) 10 5 (0 : Int32)) 10 6 (0 : Int32)) 10 7 (0 : Int32)) 10 8 (1 : Int32)) := f8.i rfl
    have w10 : WT (uI (uI (uI (uI (uI (uI m 10 4 (0 : Int32)) 10 5 (0 : Int32)) 10 6 (0 : Int32)) 10 7 (0 : Int32)) 10 8 (1 : Int32)) (10 + 4) ((0 : Int32).toNatClampNeg) (vp_nar .boolean (0 : Int32))) := w9.n rfl
    have f10 : Fx (RS [1]) m (uI (uI (uI (uI (uI (uI m 10 4 (0 : Int32)) 10 5 (0 : Int32)) 10 6 (0 : Int32)) 10 7 (0 : Int32)) 10 8 (1 : Int32)) (10 + 4) ((0 : Int32).toNatClampNeg) (vp_nar .boolean (0 : Int32))) := f9.i rfl
    have t11 := ti_ltv (a := (40 : Int32)) (b := (m.1 1 1)) (c := (40 : Int32)) (d := (m.1 1 1)) (A := (40)) (B := (m.1 1 1).toInt) (C := (40)) (D := (m.1 1 1).toInt) rfl rfl rfl rfl
    exact (l_X5_compile_10 (m0 := m) 1000000) _ _ _ w10 f10 (by show (0 : Int) ≤ ((if (40 : Int32) < (m.1 1 1) then (40 : Int32) else (m.1 1 1))).toInt; omega) (by show ((if (40 : Int32) < (m.1 1 1) then (40 : Int32) else (m.1 1 1))).toInt ≤ (40 : Int); omega) (by show (0 : Int) ≤ (0 : Int); omega) (by show (0 : Int) ≤ (40 : Int); omega) (by show 40 - (0 : Int) < _; omega)
  · intro c12
    have r13 := w.at (a := 1) (k := 1) rfl
    have c14 : (m.1 1 1) = (0 : Int32) := c12
    have k15 := y_eqr (n := 0) rfl c14
    have w16 : WT (uI m 10 4 (0 : Int32)) := w.t rfl (by show (0 : Int) ≤ (0 : Int); omega) (by show (0 : Int) ≤ 40; omega)
    have f16 : Fx (RS [1]) m (uI m 10 4 (0 : Int32)) := f.i rfl
    have w17 : WT (uI (uI m 10 4 (0 : Int32)) 10 5 (0 : Int32)) := w16.t rfl (by show (0 : Int) ≤ (0 : Int); omega) (by show (0 : Int) ≤ 40; omega)
    have f17 : Fx (RS [1]) m (uI (uI m 10 4 (0 : Int32)) 10 5 (0 : Int32)) := f16.i rfl
    have w18 : WT (uI (uI (uI m 10 4 (0 : Int32)) 10 5 (0 : Int32)) 10 6 (0 : Int32)) := w17.t rfl (by show (0 : Int) ≤ (0 : Int); omega) (by show (0 : Int) ≤ 4; omega)
    have f18 : Fx (RS [1]) m (uI (uI (uI m 10 4 (0 : Int32)) 10 5 (0 : Int32)) 10 6 (0 : Int32)) := f17.i rfl
    have w19 : WT (uI (uI (uI (uI m 10 4 (0 : Int32)) 10 5 (0 : Int32)) 10 6 (0 : Int32)) 10 7 (0 : Int32)) := w18.n rfl
    have f19 : Fx (RS [1]) m (uI (uI (uI (uI m 10 4 (0 : Int32)) 10 5 (0 : Int32)) 10 6 (0 : Int32)) 10 7 (0 : Int32)) := f18.i rfl
    have w20 : WT (uI (uI (uI (uI (uI m 10 4 (0 : Int32)) 10 5 (0 : Int32)) 10 6 (0 : Int32)) 10 7 (0 : Int32)) 10 8 (1 : Int32)) := w19.n rfl
    have f20 : Fx (RS [1]) m (uI (uI (uI (uI (uI m 10 4 (0 : Int32)) 10 5 (0 : Int32)) 10 6 (0 : Int32)) 10 7 (0 : Int32)) 10 8 (1 : Int32)) := f19.i rfl
    have w21 : WT (uI (uI (uI (uI (uI (uI m 10 4 (0 : Int32)) 10 5 (0 : Int32)) 10 6 (0 : Int32)) 10 7 (0 : Int32)) 10 8 (1 : Int32)) (10 + 4) ((0 : Int32).toNatClampNeg) (vp_nar .boolean (0 : Int32))) := w20.n rfl
    have f21 : Fx (RS [1]) m (uI (uI (uI (uI (uI (uI m 10 4 (0 : Int32)) 10 5 (0 : Int32)) 10 6 (0 : Int32)) 10 7 (0 : Int32)) 10 8 (1 : Int32)) (10 + 4) ((0 : Int32).toNatClampNeg) (vp_nar .boolean (0 : Int32))) := f20.i rfl
    exact ⟨w21, f21, _, rfl⟩
theorem s_X5_compile {ad : Nat → Nat} {d : Nat} {m : Wm} {b0 : Nat} (w : WT m) (hb0 : b0 = 5 ∨ b0 = 10) : Ct ad μX5_compile (d + 4) [.ref (ad b0), .ref (ad 1)] m (fun r m' => WT m' ∧ Fx (RS [1]) m m' ∧ ∃ v : Int32, r = some (.int v)) := by
  rcases hb0 with rfl | rfl
  · exact s_X5_compile_5 w
  · exact s_X5_compile_10 w
