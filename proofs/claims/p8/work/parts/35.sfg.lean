section
/-! SAFETY OF THE CLASS, BY PROGRAM (X11_sidesWithResult .. X11_count) -/
set_option maxHeartbeats 4000000 in
theorem l_X11_sidesWithResult {ad : Nat → Nat} {d : Nat} {m0 : Wm}  : ∀ n : Nat, (∀ (m : Wm) (x1 x2 x3 x4 : Int32), WT m → Fx (RS [14]) m0 m → (0 : Int) ≤ x1.toInt → x1.toInt ≤ (7 : Int) → (0 : Int) ≤ x4.toInt → x4.toInt ≤ (8 : Int) → 8 - x4.toInt < (n : Int) → AW ad E0 μX11_sidesWithResult (d + 5) (fun r m' => WT m' ∧ Fx (RS [14]) m0 m' ∧ ∃ v : Int32, r = some (.int v)) 5 [(0, .ref (ad 0)), (1, .int x1), (2, .int x2), (3, .int x3), (4, .int x4)] [] m) := by
  intro n
  induction n with
  | zero =>
    intros
    exfalso
    omega
  | succ n ih =>
    intro m x1 x2 x3 x4 w f j1 j2 j3 j4 hn
    refine g_X11_sidesWithResult_5  ?_
    refine ⟨?_, ?_⟩
    · intro c1
      have r2 := w.at (a := 3) (k := 3) rfl
      have k3 := z_le c1
      exact ⟨w, f, _, rfl⟩
    · intro c4
      have r5 := w.at (a := 3) (k := 3) rfl
      have k6 := z_nle c4
      refine ⟨?_, ?_⟩
      · intro c7
        have k8 := z_eq c7
        have t9 := ti_addc (x := x4) (y := (1 : Int32)) (c := 1) rfl (by omega)
        exact ih _ _ _ _ _ w f (by show (0 : Int) ≤ (x1).toInt; omega) (by show (x1).toInt ≤ (7 : Int); omega) (by show (0 : Int) ≤ ((x4 + (1 : Int32))).toInt; omega) (by show ((x4 + (1 : Int32))).toInt ≤ (8 : Int); omega) (by show 8 - ((x4 + (1 : Int32))).toInt < _; omega)
      · intro c10
        have k11 := z_ne c10
        refine (s_X1_result w SS_21 (by show (0 : Int) ≤ (x1).toInt; omega) (by show (x1).toInt ≤ (7 : Int); omega) (by show (0 : Int) ≤ (x4).toInt; omega) (by show (x4).toInt ≤ (7 : Int); omega)).to ?_
        rintro _ m1 ⟨w_m1, g12, v2, rfl, p13, p14⟩
        have f_m1 : Fx (RS [14]) m0 m1 := f.tr g12 (RS_sub rfl)
        refine ⟨v2, rfl, ?_⟩
        refine ⟨?_, ?_⟩
        · intro c15
          have k16 := z_ne c15
          have t17 := ti_addc (x := x4) (y := (1 : Int32)) (c := 1) rfl (by omega)
          exact ih _ _ _ _ _ w_m1 f_m1 (by show (0 : Int) ≤ (x1).toInt; omega) (by show (x1).toInt ≤ (7 : Int); omega) (by show (0 : Int) ≤ ((x4 + (1 : Int32))).toInt; omega) (by show ((x4 + (1 : Int32))).toInt ≤ (8 : Int); omega) (by show 8 - ((x4 + (1 : Int32))).toInt < _; omega)
        · intro c18
          have k19 := z_eq c18
          have t20 := ti_addc (x := x4) (y := (1 : Int32)) (c := 1) rfl (by omega)
          exact ih _ _ _ _ _ w_m1 f_m1 (by show (0 : Int) ≤ (x1).toInt; omega) (by show (x1).toInt ≤ (7 : Int); omega) (by show (0 : Int) ≤ ((x4 + (1 : Int32))).toInt; omega) (by show ((x4 + (1 : Int32))).toInt ≤ (8 : Int); omega) (by show 8 - ((x4 + (1 : Int32))).toInt < _; omega)
set_option maxHeartbeats 4000000 in
theorem s_X11_sidesWithResult {ad : Nat → Nat} {d : Nat} {m : Wm} {x1 x2 : Int32} (w : WT m) (i1 : (0 : Int) ≤ x1.toInt) (i2 : x1.toInt ≤ (7 : Int)) : Ct ad μX11_sidesWithResult (d + 5) [.ref (ad 0), .int x1, .int x2] m (fun r m' => WT m' ∧ Fx (RS [14]) m m' ∧ ∃ v : Int32, r = some (.int v)) := by
  have f : Fx (RS [14]) m m := Fx.rf
  refine v_X11_sidesWithResult  ?_
  exact (l_X11_sidesWithResult (m0 := m) 1000000) _ _ _ _ _ w f (by show (0 : Int) ≤ (x1).toInt; omega) (by show (x1).toInt ≤ (7 : Int); omega) (by show (0 : Int) ≤ (0 : Int); omega) (by show (0 : Int) ≤ (8 : Int); omega) (by show 8 - (0 : Int) < _; omega)
set_option maxHeartbeats 4000000 in
theorem s_X11_beats {ad : Nat → Nat} {d : Nat} {m : Wm} {x1 : Int32} (w : WT m) : Ct ad μX11_beats (d + 6) [.ref (ad 0), .int x1] m (fun r m' => WT m' ∧ Fx (RS [9, 14]) m m' ∧ ∃ v : Int32, r = some (.int v)) := by
  have f : Fx (RS [9, 14]) m m := Fx.rf
  refine v_X11_beats  ?_
  refine (s_X1_has w).to ?_
  rintro _ m1 ⟨w_m1, g1, v2, rfl, p3, p4, p2⟩
  have f_m1 : Fx (RS [9, 14]) m m1 := f.tr g1 (RS_sub rfl)
  have p5 : (v2.toInt = 0 ∧ ((x1).toInt < 0 ∨ ((m.1 3 3)).toInt ≤ (x1).toInt)) ∨ (v2.toInt = 1 ∧ 0 ≤ (x1).toInt ∧ (x1).toInt < ((m.1 3 3)).toInt ∧ (x1).toInt ≤ 7) := p2
  clear p2
  refine ⟨v2, rfl, ?_⟩
  refine ⟨?_, ?_⟩
  · intro c6
    have k7 := y_ner (n := 0) rfl c6
    refine (s_X11_sidesWithResult w_m1 (by show (0 : Int) ≤ (x1).toInt; omega) (by show (x1).toInt ≤ (7 : Int); omega)).to ?_
    rintro _ m3 ⟨w_m3, g8, v4, rfl⟩
    have f_m3 : Fx (RS [9, 14]) m m3 := f_m1.tr g8 (RS_sub rfl)
    refine ⟨v4, rfl, ?_⟩
    refine (s_X11_tell w_m3).to ?_
    rintro _ m5 ⟨w_m5, g9, rfl⟩
    have f_m5 : Fx (RS [9, 14]) m m5 := f_m3.tr g9 (RS_sub rfl)
    refine ⟨rfl, ?_⟩
    refine (s_X11_sidesWithResult w_m5 (by show (0 : Int) ≤ (x1).toInt; omega) (by show (x1).toInt ≤ (7 : Int); omega)).to ?_
    rintro _ m6 ⟨w_m6, g10, v7, rfl⟩
    have f_m6 : Fx (RS [9, 14]) m m6 := f_m5.tr g10 (RS_sub rfl)
    refine ⟨v7, rfl, ?_⟩
    exact ⟨w_m6, f_m6, _, rfl⟩
  · intro c11
    have k12 := y_eqr (n := 0) rfl c11
    exact ⟨w_m1, f_m1, _, rfl⟩
set_option maxHeartbeats 4000000 in
theorem l_X11_isKing {ad : Nat → Nat} {d : Nat} {m0 : Wm}  : ∀ n : Nat, (∀ (m : Wm) (x1 x2 x3 : Int32), WT m → Fx (RS []) m0 m → (0 : Int) ≤ x1.toInt → x1.toInt ≤ (7 : Int) → (0 : Int) ≤ x3.toInt → x3.toInt ≤ (8 : Int) → 8 - x3.toInt < (n : Int) → AW ad E0 μX11_isKing d (fun r m' => WT m' ∧ Fx (RS []) m0 m' ∧ ∃ v : Int32, r = some (.int v) ∧ (0 : Int) ≤ v.toInt ∧ v.toInt ≤ 1) 13 [(0, .ref (ad 0)), (1, .int x1), (2, .int x2), (3, .int x3)] [] m) := by
  intro n
  induction n with
  | zero =>
    intros
    exfalso
    omega
  | succ n ih =>
    intro m x1 x2 x3 w f j1 j2 j3 j4 hn
    refine g_X11_isKing_13  ?_
    refine ⟨?_, ?_⟩
    · intro c1
      have r2 := w.at (a := 3) (k := 3) rfl
      have k3 := z_le c1
      refine ⟨?_, ?_⟩
      · intro c4
        have k5 := z_ne c4
        exact ⟨w, f, _, rfl, (by show (0 : Int) ≤ (0 : Int); omega), (by show (0 : Int) ≤ (1 : Int); omega)⟩
      · intro c6
        have k7 := z_eq c6
        exact ⟨w, f, _, rfl, (by show (0 : Int) ≤ (1 : Int); omega), (by show (1 : Int) ≤ (1 : Int); omega)⟩
    · intro c8
      have r9 := w.at (a := 3) (k := 3) rfl
      have k10 := z_nle c8
      refine ⟨?_, ?_⟩
      · exact vpi (by omega) (by omega)
      · refine ⟨?_, ?_⟩
        · intro c11
          have t12 := t_and1 ((m.1 149 x1.toNatClampNeg) >>> (x3 &&& 31))
          have k13 := y_eqr (n := 0) rfl c11
          have t14 := ti_addc (x := x3) (y := (1 : Int32)) (c := 1) rfl (by omega)
          exact ih _ _ _ _ w f (by show (0 : Int) ≤ (x1).toInt; omega) (by show (x1).toInt ≤ (7 : Int); omega) (by show (0 : Int) ≤ ((x3 + (1 : Int32))).toInt; omega) (by show ((x3 + (1 : Int32))).toInt ≤ (8 : Int); omega) (by show 8 - ((x3 + (1 : Int32))).toInt < _; omega)
        · intro c15
          have t16 := t_and1 ((m.1 149 x1.toNatClampNeg) >>> (x3 &&& 31))
          have k17 := y_ner (n := 0) rfl c15
          refine ⟨?_, ?_⟩
          · exact vpi (by omega) (by omega)
          · have t18 := ti_addc (x := x3) (y := (1 : Int32)) (c := 1) rfl (by omega)
            exact ih _ _ _ _ w f (by show (0 : Int) ≤ (x1).toInt; omega) (by show (x1).toInt ≤ (7 : Int); omega) (by show (0 : Int) ≤ ((x3 + (1 : Int32))).toInt; omega) (by show ((x3 + (1 : Int32))).toInt ≤ (8 : Int); omega) (by show 8 - ((x3 + (1 : Int32))).toInt < _; omega)
set_option maxHeartbeats 4000000 in
theorem s_X11_isKing {ad : Nat → Nat} {d : Nat} {m : Wm} {x1 : Int32} (w : WT m) (i1 : (0 : Int) ≤ x1.toInt) (i2 : x1.toInt ≤ (7 : Int)) : Ct ad μX11_isKing d [.ref (ad 0), .int x1] m (fun r m' => WT m' ∧ Fx (RS []) m m' ∧ ∃ v : Int32, r = some (.int v) ∧ (0 : Int) ≤ v.toInt ∧ v.toInt ≤ 1) := by
  have f : Fx (RS []) m m := Fx.rf
  refine v_X11_isKing  ?_
  refine ⟨?_, ?_⟩
  · exact vpi (by omega) (by omega)
  · exact (l_X11_isKing (m0 := m) 1000000) _ _ _ _ w f (by show (0 : Int) ≤ (x1).toInt; omega) (by show (x1).toInt ≤ (7 : Int); omega) (by show (0 : Int) ≤ (0 : Int); omega) (by show (0 : Int) ≤ (8 : Int); omega) (by show 8 - (0 : Int) < _; omega)
set_option maxHeartbeats 4000000 in
theorem l_X11_kings {ad : Nat → Nat} {d : Nat} {m0 : Wm}  : ∀ n : Nat, (∀ (m : Wm) (x1 x2 : Int32), WT m → Fx (RS [9, 14]) m0 m → (0 : Int) ≤ x2.toInt → x2.toInt ≤ (8 : Int) → 1000 - x2.toInt < (n : Int) → AW ad E0 μX11_kings (d + 6) (fun r m' => WT m' ∧ Fx (RS [9, 14]) m0 m' ∧ ∃ v : Int32, r = some (.int v)) 4 [(0, .ref (ad 0)), (1, .int x1), (2, .int x2)] [] m) ∧ (∀ (m : Wm) (x1 x2 x3 : Int32), WT m → Fx (RS [9, 14]) m0 m → (0 : Int) ≤ x3.toInt → x3.toInt ≤ (8 : Int) → 8 - x3.toInt < (n : Int) → AW ad E0 μX11_kings (d + 6) (fun r m' => WT m' ∧ Fx (RS [9, 14]) m0 m' ∧ ∃ v : Int32, r = some (.int v)) 52 [(0, .ref (ad 0)), (1, .int x1), (2, .int x2), (3, .int x3)] [] m) := by
  intro n
  induction n with
  | zero =>
    refine ⟨?_, ?_⟩ <;> intros <;> exfalso <;> omega
  | succ n ih =>
    refine ⟨?_, ?_⟩
    · intro m x1 x2 w f j1 j2 hn
      refine g_X11_kings_4  ?_
      refine ⟨?_, ?_⟩
      · intro c1
        have r2 := w.at (a := 3) (k := 3) rfl
        have k3 := z_le c1
        exact ih.2 _ _ _ _ w f (by show (0 : Int) ≤ (0 : Int); omega) (by show (0 : Int) ≤ (8 : Int); omega) (by show 8 - (0 : Int) < _; omega)
      · intro c4
        have r5 := w.at (a := 3) (k := 3) rfl
        have k6 := z_nle c4
        refine (s_X11_sidesWithResult w (by show (0 : Int) ≤ (x2).toInt; omega) (by show (x2).toInt ≤ (7 : Int); omega)).to ?_
        rintro _ m1 ⟨w_m1, g7, v2, rfl⟩
        have f_m1 : Fx (RS [9, 14]) m0 m1 := f.tr g7 (RS_sub rfl)
        refine ⟨v2, rfl, ?_⟩
        refine ⟨?_, ?_⟩
        · exact vpi (by omega) (by omega)
        · refine ⟨?_, ?_⟩
          · exact vpi (by omega) (by omega)
          · refine ⟨?_, ?_⟩
            · intro c8
              have k9 := y_ner (n := 0) rfl c8
              have w10 : WT (uI m1 149 x2.toNatClampNeg v2) := w_m1.n rfl
              have f10 : Fx (RS [9, 14]) m0 (uI m1 149 x2.toNatClampNeg v2) := f_m1.i rfl
              have t11 := ti_addc (x := x2) (y := (1 : Int32)) (c := 1) rfl (by omega)
              exact ih.1 _ _ _ w10 f10 (by show (0 : Int) ≤ ((x2 + (1 : Int32))).toInt; omega) (by show ((x2 + (1 : Int32))).toInt ≤ (8 : Int); omega) (by show 1000 - ((x2 + (1 : Int32))).toInt < _; omega)
            · intro c12
              have k13 := y_eqr (n := 0) rfl c12
              have w14 : WT (uI m1 149 x2.toNatClampNeg v2) := w_m1.n rfl
              have f14 : Fx (RS [9, 14]) m0 (uI m1 149 x2.toNatClampNeg v2) := f_m1.i rfl
              have t15 := ti_addc (x := x2) (y := (1 : Int32)) (c := 1) rfl (by omega)
              exact ih.1 _ _ _ w14 f14 (by show (0 : Int) ≤ ((x2 + (1 : Int32))).toInt; omega) (by show ((x2 + (1 : Int32))).toInt ≤ (8 : Int); omega) (by show 1000 - ((x2 + (1 : Int32))).toInt < _; omega)
    · intro m x1 x2 x3 w f j1 j2 hn
      refine g_X11_kings_52  ?_
      refine ⟨?_, ?_⟩
      · intro c1
        have r2 := w.at (a := 3) (k := 3) rfl
        have k3 := z_le c1
        refine (s_X11_tell w).to ?_
        rintro _ m1 ⟨w_m1, g4, rfl⟩
        have f_m1 : Fx (RS [9, 14]) m0 m1 := f.tr g4 (RS_sub rfl)
        refine ⟨rfl, ?_⟩
        exact ⟨w_m1, f_m1, _, rfl⟩
      · intro c5
        have r6 := w.at (a := 3) (k := 3) rfl
        have k7 := z_nle c5
        refine (s_X11_isKing w (by show (0 : Int) ≤ (x3).toInt; omega) (by show (x3).toInt ≤ (7 : Int); omega)).to ?_
        rintro _ m2 ⟨w_m2, g8, v3, rfl, p9, p10⟩
        have f_m2 : Fx (RS [9, 14]) m0 m2 := f.tr g8 (RS_sub rfl)
        refine ⟨v3, rfl, ?_⟩
        refine ⟨?_, ?_⟩
        · intro c11
          have k12 := y_eqr (n := 0) rfl c11
          have t13 := ti_addc (x := x3) (y := (1 : Int32)) (c := 1) rfl (by omega)
          exact ih.2 _ _ _ _ w_m2 f_m2 (by show (0 : Int) ≤ ((x3 + (1 : Int32))).toInt; omega) (by show ((x3 + (1 : Int32))).toInt ≤ (8 : Int); omega) (by show 8 - ((x3 + (1 : Int32))).toInt < _; omega)
        · intro c14
          have k15 := y_ner (n := 0) rfl c14
          have t16 := ti_addc (x := x3) (y := (1 : Int32)) (c := 1) rfl (by omega)
          exact ih.2 _ _ _ _ w_m2 f_m2 (by show (0 : Int) ≤ ((x3 + (1 : Int32))).toInt; omega) (by show ((x3 + (1 : Int32))).toInt ≤ (8 : Int); omega) (by show 8 - ((x3 + (1 : Int32))).toInt < _; omega)
set_option maxHeartbeats 4000000 in
theorem s_X11_kings {ad : Nat → Nat} {d : Nat} {m : Wm} (w : WT m) : Ct ad μX11_kings (d + 6) [.ref (ad 0)] m (fun r m' => WT m' ∧ Fx (RS [9, 14]) m m' ∧ ∃ v : Int32, r = some (.int v)) := by
  have f : Fx (RS [9, 14]) m m := Fx.rf
  refine v_X11_kings  ?_
  exact (l_X11_kings (m0 := m) 1000000).1 _ _ _ w f (by show (0 : Int) ≤ (0 : Int); omega) (by show (0 : Int) ≤ (8 : Int); omega) (by show 1000 - (0 : Int) < _; omega)
set_option maxHeartbeats 4000000 in
theorem l_X11_master {ad : Nat → Nat} {d : Nat} {m0 : Wm}  : ∀ n : Nat, (∀ (m : Wm) (x1 x2 x3 x4 : Int32), WT m → Fx (RS [9]) m0 m → (0 : Int) ≤ x2.toInt → x2.toInt ≤ (7 : Int) → (0 : Int) ≤ x4.toInt → x4.toInt ≤ (8 : Int) → 1000 - x4.toInt < (n : Int) → AW ad E0 μX11_master (d + 1) (fun r m' => WT m' ∧ Fx (RS [9]) m0 m' ∧ ∃ v : Int32, r = some (.int v)) 34 [(0, .ref (ad 0)), (1, .int x1), (2, .int x2), (3, .int x3), (4, .int x4)] [] m) ∧ (∀ (m : Wm) (x1 x2 x3 x4 x5 x6 : Int32), WT m → Fx (RS [9]) m0 m → (0 : Int) ≤ x2.toInt → x2.toInt ≤ (7 : Int) → (0 : Int) ≤ x6.toInt → x6.toInt ≤ (8 : Int) → 8 - x6.toInt < (n : Int) → AW ad E0 μX11_master (d + 1) (fun r m' => WT m' ∧ Fx (RS [9]) m0 m' ∧ ∃ v : Int32, r = some (.int v)) 105 [(0, .ref (ad 0)), (1, .int x1), (2, .int x2), (3, .int x3), (4, .int x4), (5, .int x5), (6, .int x6)] [] m) := by
  intro n
  induction n with
  | zero =>
    refine ⟨?_, ?_⟩ <;> intros <;> exfalso <;> omega
  | succ n ih =>
    refine ⟨?_, ?_⟩
    · intro m x1 x2 x3 x4 w f j1 j2 j3 j4 hn
      refine g_X11_master_34  ?_
      refine ⟨?_, ?_⟩
      · intro c1
        have r2 := w.at (a := 3) (k := 3) rfl
        have k3 := z_le c1
        refine (s_X8_skillOf w SS_21).to ?_
        rintro _ m1 ⟨w_m1, g4, v2, rfl⟩
        have f_m1 : Fx (RS [9]) m0 m1 := f.tr g4 (RS_sub rfl)
        refine ⟨v2, rfl, ?_⟩
        exact ih.2 _ _ _ _ _ _ _ w_m1 f_m1 (by show (0 : Int) ≤ (x2).toInt; omega) (by show (x2).toInt ≤ (7 : Int); omega) (by show (0 : Int) ≤ (0 : Int); omega) (by show (0 : Int) ≤ (8 : Int); omega) (by show 8 - (0 : Int) < _; omega)
      · intro c5
        have r6 := w.at (a := 3) (k := 3) rfl
        have k7 := z_nle c5
        refine (s_X8_skillOf w SS_21).to ?_
        rintro _ m3 ⟨w_m3, g8, v4, rfl⟩
        have f_m3 : Fx (RS [9]) m0 m3 := f.tr g8 (RS_sub rfl)
        refine ⟨v4, rfl, ?_⟩
        refine (s_X8_skillOf w_m3 SS_21).to ?_
        rintro _ m5 ⟨w_m5, g9, v6, rfl⟩
        have f_m5 : Fx (RS [9]) m0 m5 := f_m3.tr g9 (RS_sub rfl)
        refine ⟨v6, rfl, ?_⟩
        refine ⟨?_, ?_⟩
        · intro c10
          have k11 := z_le c10
          have t12 := ti_addc (x := x4) (y := (1 : Int32)) (c := 1) rfl (by omega)
          exact ih.1 _ _ _ _ _ w_m5 f_m5 (by show (0 : Int) ≤ (x2).toInt; omega) (by show (x2).toInt ≤ (7 : Int); omega) (by show (0 : Int) ≤ ((x4 + (1 : Int32))).toInt; omega) (by show ((x4 + (1 : Int32))).toInt ≤ (8 : Int); omega) (by show 1000 - ((x4 + (1 : Int32))).toInt < _; omega)
        · intro c13
          have k14 := z_nle c13
          have t15 := ti_addc (x := x4) (y := (1 : Int32)) (c := 1) rfl (by omega)
          exact ih.1 _ _ _ _ _ w_m5 f_m5 (by show (0 : Int) ≤ (x4).toInt; omega) (by show (x4).toInt ≤ (7 : Int); omega) (by show (0 : Int) ≤ ((x4 + (1 : Int32))).toInt; omega) (by show ((x4 + (1 : Int32))).toInt ≤ (8 : Int); omega) (by show 1000 - ((x4 + (1 : Int32))).toInt < _; omega)
    · intro m x1 x2 x3 x4 x5 x6 w f j1 j2 j3 j4 hn
      refine g_X11_master_105  ?_
      refine ⟨?_, ?_⟩
      · intro c1
        have r2 := w.at (a := 3) (k := 3) rfl
        have k3 := z_le c1
        refine (s_X11_tell__ w).to ?_
        rintro _ m1 ⟨w_m1, g4, rfl⟩
        have f_m1 : Fx (RS [9]) m0 m1 := f.tr g4 (RS_sub rfl)
        refine ⟨rfl, ?_⟩
        exact ⟨w_m1, f_m1, _, rfl⟩
      · intro c5
        have r6 := w.at (a := 3) (k := 3) rfl
        have k7 := z_nle c5
        refine (s_X8_skillOf w SS_21).to ?_
        rintro _ m2 ⟨w_m2, g8, v3, rfl⟩
        have f_m2 : Fx (RS [9]) m0 m2 := f.tr g8 (RS_sub rfl)
        refine ⟨v3, rfl, ?_⟩
        refine ⟨?_, ?_⟩
        · intro c9
          have k10 := z_ne c9
          have t11 := ti_addc (x := x6) (y := (1 : Int32)) (c := 1) rfl (by omega)
          exact ih.2 _ _ _ _ _ _ _ w_m2 f_m2 (by show (0 : Int) ≤ (x2).toInt; omega) (by show (x2).toInt ≤ (7 : Int); omega) (by show (0 : Int) ≤ ((x6 + (1 : Int32))).toInt; omega) (by show ((x6 + (1 : Int32))).toInt ≤ (8 : Int); omega) (by show 8 - ((x6 + (1 : Int32))).toInt < _; omega)
        · intro c12
          have k13 := z_eq c12
          have t14 := ti_addc (x := x6) (y := (1 : Int32)) (c := 1) rfl (by omega)
          exact ih.2 _ _ _ _ _ _ _ w_m2 f_m2 (by show (0 : Int) ≤ (x2).toInt; omega) (by show (x2).toInt ≤ (7 : Int); omega) (by show (0 : Int) ≤ ((x6 + (1 : Int32))).toInt; omega) (by show ((x6 + (1 : Int32))).toInt ≤ (8 : Int); omega) (by show 8 - ((x6 + (1 : Int32))).toInt < _; omega)
set_option maxHeartbeats 4000000 in
theorem s_X11_master {ad : Nat → Nat} {d : Nat} {m : Wm} {x1 : Int32} (w : WT m) : Ct ad μX11_master (d + 1) [.ref (ad 0), .int x1] m (fun r m' => WT m' ∧ Fx (RS [9]) m m' ∧ ∃ v : Int32, r = some (.int v)) := by
  have f : Fx (RS [9]) m m := Fx.rf
  refine v_X11_master  ?_
  refine (s_X1_knows w).to ?_
  rintro _ m1 ⟨w_m1, g1, v2, rfl, p2, p3⟩
  have f_m1 : Fx (RS [9]) m m1 := f.tr g1 (RS_sub rfl)
  refine ⟨v2, rfl, ?_⟩
  refine ⟨?_, ?_⟩
  · intro c4
    have k5 := y_ner (n := 0) rfl c4
    refine ⟨?_, ?_⟩
    · intro c6
      have r7 := w_m1.at (a := 3) (k := 3) rfl
      have k8 := y_ner (n := 0) rfl c6
      exact (l_X11_master (m0 := m) 1000000).1 _ _ _ _ _ w_m1 f_m1 (by show (0 : Int) ≤ (0 : Int); omega) (by show (0 : Int) ≤ (7 : Int); omega) (by show (0 : Int) ≤ (0 : Int); omega) (by show (0 : Int) ≤ (8 : Int); omega) (by show 1000 - (0 : Int) < _; omega)
    · intro c9
      have r10 := w_m1.at (a := 3) (k := 3) rfl
      have k11 := y_eqr (n := 0) rfl c9
      exact ⟨w_m1, f_m1, _, rfl⟩
  · intro c12
    have k13 := y_eqr (n := 0) rfl c12
    exact ⟨w_m1, f_m1, _, rfl⟩
set_option maxHeartbeats 4000000 in
theorem s_X11_standsAhead {ad : Nat → Nat} {d : Nat} {m : Wm} {x1 x2 : Int32} (w : WT m) (i1 : (0 : Int) ≤ x1.toInt) (i2 : x1.toInt ≤ (7 : Int)) (i3 : (0 : Int) ≤ x2.toInt) (i4 : x2.toInt ≤ (7 : Int)) : Ct ad μX11_standsAhead d [.ref (ad 0), .int x1, .int x2] m (fun r m' => WT m' ∧ Fx (RS []) m m' ∧ ∃ v : Int32, r = some (.int v) ∧ (0 : Int) ≤ v.toInt ∧ v.toInt ≤ 1) := by
  have f : Fx (RS []) m m := Fx.rf
  refine v_X11_standsAhead  ?_
  refine ⟨?_, ?_⟩
  · exact vpi (by omega) (by omega)
  · refine ⟨?_, ?_⟩
    · exact vpi (by omega) (by omega)
    · refine ⟨?_, ?_⟩
      · intro c1
        have k2 := z_eq c1
        refine ⟨?_, ?_⟩
        · exact vpi (by omega) (by omega)
        · refine ⟨?_, ?_⟩
          · exact vpi (by omega) (by omega)
          · refine ⟨?_, ?_⟩
            · intro c3
              have k4 := z_eq c3
              refine ⟨?_, ?_⟩
              · intro c5
                have k6 := z_le c5
                exact ⟨w, f, _, rfl, (by show (0 : Int) ≤ (0 : Int); omega), (by show (0 : Int) ≤ (1 : Int); omega)⟩
              · intro c7
                have k8 := z_nle c7
                exact ⟨w, f, _, rfl, (by show (0 : Int) ≤ (1 : Int); omega), (by show (1 : Int) ≤ (1 : Int); omega)⟩
            · intro c9
              have k10 := z_ne c9
              refine ⟨?_, ?_⟩
              · exact vpi (by omega) (by omega)
              · refine ⟨?_, ?_⟩
                · exact vpi (by omega) (by omega)
                · refine ⟨?_, ?_⟩
                  · intro c11
                    have k12 := z_le c11
                    exact ⟨w, f, _, rfl, (by show (0 : Int) ≤ (0 : Int); omega), (by show (0 : Int) ≤ (1 : Int); omega)⟩
                  · intro c13
                    have k14 := z_nle c13
                    exact ⟨w, f, _, rfl, (by show (0 : Int) ≤ (1 : Int); omega), (by show (1 : Int) ≤ (1 : Int); omega)⟩
      · intro c15
        have k16 := z_ne c15
        refine ⟨?_, ?_⟩
        · exact vpi (by omega) (by omega)
        · refine ⟨?_, ?_⟩
          · exact vpi (by omega) (by omega)
          · refine ⟨?_, ?_⟩
            · intro c17
              have k18 := z_le c17
              exact ⟨w, f, _, rfl, (by show (0 : Int) ≤ (0 : Int); omega), (by show (0 : Int) ≤ (1 : Int); omega)⟩
            · intro c19
              have k20 := z_nle c19
              exact ⟨w, f, _, rfl, (by show (0 : Int) ≤ (1 : Int); omega), (by show (1 : Int) ≤ (1 : Int); omega)⟩
set_option maxHeartbeats 4000000 in
theorem l_X11_table {ad : Nat → Nat} {d : Nat} {m0 : Wm}  : ∀ n : Nat, (∀ (m : Wm) (x1 : Int32), WT m → Fx (RS [9, 14]) m0 m → (0 : Int) ≤ x1.toInt → x1.toInt ≤ (8 : Int) → ((m.1 3 3).toInt = (m0.1 3 3).toInt) → 1000 - x1.toInt < (n : Int) → AW ad E0 μX11_table (d + 5) (fun r m' => WT m' ∧ Fx (RS [9, 14]) m0 m' ∧ ∃ v : Int32, r = some (.int v) ∧ (v.toInt = (m0.1 3 3).toInt)) 2 [(0, .ref (ad 0)), (1, .int x1)] [] m) ∧ (∀ (m : Wm) (x1 : Int32), WT m → Fx (RS [9, 14]) m0 m → (0 : Int) ≤ x1.toInt → x1.toInt ≤ (8 : Int) → ((m.1 3 3).toInt = (m0.1 3 3).toInt) → (8 - x1.toInt) * 20 + 15 < (n : Int) → AW ad E0 μX11_table (d + 5) (fun r m' => WT m' ∧ Fx (RS [9, 14]) m0 m' ∧ ∃ v : Int32, r = some (.int v) ∧ (v.toInt = (m0.1 3 3).toInt)) 39 [(0, .ref (ad 0)), (1, .int x1)] [] m) ∧ (∀ (m : Wm) (x1 x2 x3 : Int32), WT m → Fx (RS [9, 14]) m0 m → (0 : Int) ≤ x1.toInt → x1.toInt ≤ (7 : Int) → (0 : Int) ≤ x2.toInt → x2.toInt ≤ (8 : Int) → (0 : Int) ≤ x3.toInt → x3.toInt ≤ (8 : Int) → (x2.toInt ≤ x3.toInt) → ((m.1 3 3).toInt = (m0.1 3 3).toInt) → (8 - x1.toInt) * 20 + 8 - x3.toInt < (n : Int) → AW ad E0 μX11_table (d + 5) (fun r m' => WT m' ∧ Fx (RS [9, 14]) m0 m' ∧ ∃ v : Int32, r = some (.int v) ∧ (v.toInt = (m0.1 3 3).toInt)) 54 [(0, .ref (ad 0)), (1, .int x1), (2, .int x2), (3, .int x3)] [] m) := by
  intro n
  induction n with
  | zero =>
    refine ⟨?_, ?_, ?_⟩ <;> intros <;> exfalso <;> omega
  | succ n ih =>
    refine ⟨?_, ?_, ?_⟩
    · intro m x1 w f j1 j2 j3 hn
      refine g_X11_table_2  ?_
      refine ⟨?_, ?_⟩
      · intro c1
        have r2 := w.at (a := 3) (k := 3) rfl
        have k3 := z_le c1
        exact ih.2.1 _ _ w f (by show (0 : Int) ≤ (0 : Int); omega) (by show (0 : Int) ≤ (8 : Int); omega) (by show ((m.1 3 3)).toInt = (m0.1 3 3).toInt; omega) (by show (8 - (0 : Int)) * 20 + 15 < _; omega)
      · intro c4
        have r5 := w.at (a := 3) (k := 3) rfl
        have k6 := z_nle c4
        refine (s_X1_power w SS_21 (by show (0 : Int) ≤ (x1).toInt; omega) (by show (x1).toInt ≤ (7 : Int); omega)).to ?_
        rintro _ m1 ⟨w_m1, g7, v2, rfl⟩
        have f_m1 : Fx (RS [9, 14]) m0 m1 := f.tr g7 (RS_sub rfl)
        have e8 : (m1.1 3 3).toInt = ((m.1 3 3)).toInt := congrArg _ (g7.at (a := 3) (k := 3) (by decide))
        refine ⟨v2, rfl, ?_⟩
        refine ⟨?_, ?_⟩
        · exact vpi (by omega) (by omega)
        · have w9 : WT (uI m1 149 x1.toNatClampNeg v2) := w_m1.n rfl
          have f9 : Fx (RS [9, 14]) m0 (uI m1 149 x1.toNatClampNeg v2) := f_m1.i rfl
          have t10 := ti_addc (x := x1) (y := (1 : Int32)) (c := 1) rfl (by omega)
          have r11 := w_m1.at (a := 3) (k := 3) rfl
          exact ih.1 _ _ w9 f9 (by show (0 : Int) ≤ ((x1 + (1 : Int32))).toInt; omega) (by show ((x1 + (1 : Int32))).toInt ≤ (8 : Int); omega) (by show ((m1.1 3 3)).toInt = (m0.1 3 3).toInt; omega) (by show 1000 - ((x1 + (1 : Int32))).toInt < _; omega)
    · intro m x1 w f j1 j2 j3 hn
      refine g_X11_table_39  ?_
      refine ⟨?_, ?_⟩
      · intro c1
        have r2 := w.at (a := 3) (k := 3) rfl
        have k3 := z_le c1
        have w4 : WT (uI m 0 18 (m.1 3 3)) := w.t rfl (by show (0 : Int) ≤ ((m.1 3 3)).toInt; omega) (by show ((m.1 3 3)).toInt ≤ 10; omega)
        have f4 : Fx (RS [9, 14]) m0 (uI m 0 18 (m.1 3 3)) := f.i rfl
        exact ⟨w4, f4, _, rfl, (by show ((m.1 3 3)).toInt = (m0.1 3 3).toInt; omega)⟩
      · intro c5
        have r6 := w.at (a := 3) (k := 3) rfl
        have k7 := z_nle c5
        exact ih.2.2 _ _ _ _ w f (by show (0 : Int) ≤ (x1).toInt; omega) (by show (x1).toInt ≤ (7 : Int); omega) (by show (0 : Int) ≤ (0 : Int); omega) (by show (0 : Int) ≤ (8 : Int); omega) (by show (0 : Int) ≤ (0 : Int); omega) (by show (0 : Int) ≤ (8 : Int); omega) (by show (0 : Int) ≤ (0 : Int); omega) (by show ((m.1 3 3)).toInt = (m0.1 3 3).toInt; omega) (by show (8 - (x1).toInt) * 20 + 8 - (0 : Int) < _; omega)
    · intro m x1 x2 x3 w f j1 j2 j3 j4 j5 j6 j7 j8 hn
      refine g_X11_table_54  ?_
      refine ⟨?_, ?_⟩
      · intro c1
        have r2 := w.at (a := 3) (k := 3) rfl
        have k3 := z_le c1
        refine ⟨?_, ?_⟩
        · exact vpi (by omega) (by omega)
        · have w4 : WT (uL m 150 x2.toNatClampNeg x1.toInt64) := w.l
          have f4 : Fx (RS [9, 14]) m0 (uL m 150 x2.toNatClampNeg x1.toInt64) := f.l rfl
          have t5 := ti_addc (x := x1) (y := (1 : Int32)) (c := 1) rfl (by omega)
          exact ih.2.1 _ _ w4 f4 (by show (0 : Int) ≤ ((x1 + (1 : Int32))).toInt; omega) (by show ((x1 + (1 : Int32))).toInt ≤ (8 : Int); omega) (by show ((m.1 3 3)).toInt = (m0.1 3 3).toInt; omega) (by show (8 - ((x1 + (1 : Int32))).toInt) * 20 + 15 < _; omega)
      · intro c6
        have r7 := w.at (a := 3) (k := 3) rfl
        have k8 := z_nle c6
        refine ⟨?_, ?_⟩
        · intro c9
          have k10 := z_eq c9
          have t11 := ti_addc (x := x3) (y := (1 : Int32)) (c := 1) rfl (by omega)
          exact ih.2.2 _ _ _ _ w f (by show (0 : Int) ≤ (x1).toInt; omega) (by show (x1).toInt ≤ (7 : Int); omega) (by show (0 : Int) ≤ (x2).toInt; omega) (by show (x2).toInt ≤ (8 : Int); omega) (by show (0 : Int) ≤ ((x3 + (1 : Int32))).toInt; omega) (by show ((x3 + (1 : Int32))).toInt ≤ (8 : Int); omega) (by show (x2).toInt ≤ ((x3 + (1 : Int32))).toInt; omega) (by show ((m.1 3 3)).toInt = (m0.1 3 3).toInt; omega) (by show (8 - (x1).toInt) * 20 + 8 - ((x3 + (1 : Int32))).toInt < _; omega)
        · intro c12
          have k13 := z_ne c12
          refine (s_X11_standsAhead w (by show (0 : Int) ≤ (x3).toInt; omega) (by show (x3).toInt ≤ (7 : Int); omega) (by show (0 : Int) ≤ (x1).toInt; omega) (by show (x1).toInt ≤ (7 : Int); omega)).to ?_
          rintro _ m1 ⟨w_m1, g14, v2, rfl, p15, p16⟩
          have f_m1 : Fx (RS [9, 14]) m0 m1 := f.tr g14 (RS_sub rfl)
          have e17 : (m1.1 3 3).toInt = ((m.1 3 3)).toInt := congrArg _ (g14.at (a := 3) (k := 3) (by decide))
          refine ⟨v2, rfl, ?_⟩
          refine ⟨?_, ?_⟩
          · intro c18
            have k19 := y_eqr (n := 0) rfl c18
            have t20 := ti_addc (x := x3) (y := (1 : Int32)) (c := 1) rfl (by omega)
            have r21 := w_m1.at (a := 3) (k := 3) rfl
            exact ih.2.2 _ _ _ _ w_m1 f_m1 (by show (0 : Int) ≤ (x1).toInt; omega) (by show (x1).toInt ≤ (7 : Int); omega) (by show (0 : Int) ≤ (x2).toInt; omega) (by show (x2).toInt ≤ (8 : Int); omega) (by show (0 : Int) ≤ ((x3 + (1 : Int32))).toInt; omega) (by show ((x3 + (1 : Int32))).toInt ≤ (8 : Int); omega) (by show (x2).toInt ≤ ((x3 + (1 : Int32))).toInt; omega) (by show ((m1.1 3 3)).toInt = (m0.1 3 3).toInt; omega) (by show (8 - (x1).toInt) * 20 + 8 - ((x3 + (1 : Int32))).toInt < _; omega)
          · intro c22
            have k23 := y_ner (n := 0) rfl c22
            have t24 := ti_addc (x := x2) (y := (1 : Int32)) (c := 1) rfl (by omega)
            have t25 := ti_addc (x := x3) (y := (1 : Int32)) (c := 1) rfl (by omega)
            have r26 := w_m1.at (a := 3) (k := 3) rfl
            exact ih.2.2 _ _ _ _ w_m1 f_m1 (by show (0 : Int) ≤ (x1).toInt; omega) (by show (x1).toInt ≤ (7 : Int); omega) (by show (0 : Int) ≤ ((x2 + (1 : Int32))).toInt; omega) (by show ((x2 + (1 : Int32))).toInt ≤ (8 : Int); omega) (by show (0 : Int) ≤ ((x3 + (1 : Int32))).toInt; omega) (by show ((x3 + (1 : Int32))).toInt ≤ (8 : Int); omega) (by show ((x2 + (1 : Int32))).toInt ≤ ((x3 + (1 : Int32))).toInt; omega) (by show ((m1.1 3 3)).toInt = (m0.1 3 3).toInt; omega) (by show (8 - (x1).toInt) * 20 + 8 - ((x3 + (1 : Int32))).toInt < _; omega)
set_option maxHeartbeats 4000000 in
theorem s_X11_table {ad : Nat → Nat} {d : Nat} {m : Wm} (w : WT m) : Ct ad μX11_table (d + 5) [.ref (ad 0)] m (fun r m' => WT m' ∧ Fx (RS [9, 14]) m m' ∧ ∃ v : Int32, r = some (.int v) ∧ (v.toInt = (m.1 3 3).toInt)) := by
  have f : Fx (RS [9, 14]) m m := Fx.rf
  refine v_X11_table  ?_
  have r1 := w.at (a := 3) (k := 3) rfl
  exact (l_X11_table (m0 := m) 1000000).1 _ _ w f (by show (0 : Int) ≤ (0 : Int); omega) (by show (0 : Int) ≤ (8 : Int); omega) (by show ((m.1 3 3)).toInt = (m.1 3 3).toInt; omega) (by show 1000 - (0 : Int) < _; omega)
set_option maxHeartbeats 4000000 in
theorem s_X11_spread {ad : Nat → Nat} {d : Nat} {m : Wm} (w : WT m) : Ct ad μX11_spread (d + 6) [.ref (ad 0)] m (fun r m' => WT m' ∧ Fx (RS [9, 14]) m m' ∧ ∃ v : Int32, r = some (.int v)) := by
  have f : Fx (RS [9, 14]) m m := Fx.rf
  refine v_X11_spread  ?_
  refine ⟨?_, ?_⟩
  · intro c1
    have r2 := w.at (a := 3) (k := 3) rfl
    have k3 := y_ner (n := 0) rfl c1
    refine (s_X1_strongest w SS_21).to ?_
    rintro _ m1 ⟨w_m1, g4, v2, rfl, p5, p6⟩
    have f_m1 : Fx (RS [9, 14]) m m1 := f.tr g4 (RS_sub rfl)
    refine ⟨v2, rfl, ?_⟩
    refine (s_X1_weakest w_m1 SS_21).to ?_
    rintro _ m3 ⟨w_m3, g7, v4, rfl, p8, p9⟩
    have f_m3 : Fx (RS [9, 14]) m m3 := f_m1.tr g7 (RS_sub rfl)
    refine ⟨v4, rfl, ?_⟩
    refine (s_X11_tell_ w_m3).to ?_
    rintro _ m5 ⟨w_m5, g10, rfl⟩
    have f_m5 : Fx (RS [9, 14]) m m5 := f_m3.tr g10 (RS_sub rfl)
    refine ⟨rfl, ?_⟩
    refine (s_X1_power w_m5 SS_21 (by show (0 : Int) ≤ (v2).toInt; omega) (by show (v2).toInt ≤ (7 : Int); omega)).to ?_
    rintro _ m6 ⟨w_m6, g11, v7, rfl⟩
    have f_m6 : Fx (RS [9, 14]) m m6 := f_m5.tr g11 (RS_sub rfl)
    refine ⟨v7, rfl, ?_⟩
    refine (s_X1_power w_m6 SS_21 (by show (0 : Int) ≤ (v4).toInt; omega) (by show (v4).toInt ≤ (7 : Int); omega)).to ?_
    rintro _ m8 ⟨w_m8, g12, v9, rfl⟩
    have f_m8 : Fx (RS [9, 14]) m m8 := f_m6.tr g12 (RS_sub rfl)
    refine ⟨v9, rfl, ?_⟩
    exact ⟨w_m8, f_m8, _, rfl⟩
  · intro c13
    have r14 := w.at (a := 3) (k := 3) rfl
    have k15 := y_eqr (n := 0) rfl c13
    have w16 : WT (uI m 0 18 (0 : Int32)) := w.t rfl (by show (0 : Int) ≤ (0 : Int); omega) (by show (0 : Int) ≤ 10; omega)
    have f16 : Fx (RS [9, 14]) m (uI m 0 18 (0 : Int32)) := f.i rfl
    exact ⟨w16, f16, _, rfl⟩
set_option maxHeartbeats 4000000 in
theorem s_X11_rest {ad : Nat → Nat} {d : Nat} {m : Wm} (w : WT m) : Ct ad μX11_rest (d + 7) [.ref (ad 0)] m (fun r m' => WT m' ∧ Fx (RS [2, 9, 10, 12, 14]) m m' ∧ ∃ v : Int32, r = some (.int v)) := by
  have f : Fx (RS [2, 9, 10, 12, 14]) m m := Fx.rf
  refine v_X11_rest  ?_
  obtain ⟨r1, e1, q2⟩ := w.r09
  refine ⟨r1, e1, Pl_of q2, ?_⟩
  refine ⟨?_, ?_⟩
  · intro c3
    have r4 := w.pl (k := 5) q2 rfl rfl
    have k5 := y_ner (n := 0) rfl c3
    refine ⟨r1, e1, Pl_of q2, ?_⟩
    refine (s_X7_findLoop w q2).to ?_
    rintro _ m3 ⟨w_m3, g6, v4, rfl, p7, p8⟩
    have f_m3 : Fx (RS [2, 9, 10, 12, 14]) m m3 := f.tr g6 (RS_sub rfl)
    refine ⟨v4, rfl, ?_⟩
    refine ⟨?_, ?_⟩
    · intro c9
      have k10 := y_ner (n := 0) rfl c9
      have r11 := w_m3.at (a := 166) (k := 3) rfl
      refine (s_X9_total w_m3 (by show (0 : Int) ≤ ((m3.1 166 3)).toInt; omega) (by show ((m3.1 166 3)).toInt ≤ (2999 : Int); omega)).to ?_
      rintro _ m5 ⟨w_m5, g12, v6, rfl⟩
      have f_m5 : Fx (RS [2, 9, 10, 12, 14]) m m5 := f_m3.tr g12 (RS_sub rfl)
      refine ⟨v6, rfl, ?_⟩
      refine (s_X11_tell_ w_m5).to ?_
      rintro _ m7 ⟨w_m7, g13, rfl⟩
      have f_m7 : Fx (RS [2, 9, 10, 12, 14]) m m7 := f_m5.tr g13 (RS_sub rfl)
      refine ⟨rfl, ?_⟩
      have r14 := w_m7.at (a := 166) (k := 3) rfl
      exact ⟨w_m7, f_m7, _, rfl⟩
    · intro c15
      have k16 := y_eqr (n := 0) rfl c15
      exact ⟨w_m3, f_m3, _, rfl⟩
  · intro c17
    have r18 := w.pl (k := 5) q2 rfl rfl
    have k19 := y_eqr (n := 0) rfl c17
    exact ⟨w, f, _, rfl⟩
set_option maxHeartbeats 4000000 in
theorem l_X11_allChances {ad : Nat → Nat} {d : Nat} {m0 : Wm}  : ∀ n : Nat, (∀ (m : Wm) (x0 x3 : Int32) (y1 : Int64), WT m → Fx (RS []) m0 m → (0 : Int) ≤ x0.toInt → x0.toInt ≤ (6 : Int) → (0 : Int) ≤ x3.toInt → x3.toInt ≤ (6 : Int) → 6 - x3.toInt < (n : Int) → AW ad E0 μX11_allChances d (fun r m' => WT m' ∧ Fx (RS []) m0 m' ∧ ∃ v : Int64, r = some (.long v)) 4 [(0, .int x0), (1, .long y1), (3, .int x3)] [] m) := by
  intro n
  induction n with
  | zero =>
    intros
    exfalso
    omega
  | succ n ih =>
    intro m x0 x3 y1 w f j1 j2 j3 j4 hn
    refine g_X11_allChances_4  ?_
    refine ⟨?_, ?_⟩
    · intro c1
      have k2 := z_le c1
      exact ⟨w, f, _, rfl⟩
    · intro c3
      have k4 := z_nle c3
      have t5 := ti_addc (x := x3) (y := (1 : Int32)) (c := 1) rfl (by omega)
      exact ih _ _ _ _ w f (by show (0 : Int) ≤ (x0).toInt; omega) (by show (x0).toInt ≤ (6 : Int); omega) (by show (0 : Int) ≤ ((x3 + (1 : Int32))).toInt; omega) (by show ((x3 + (1 : Int32))).toInt ≤ (6 : Int); omega) (by show 6 - ((x3 + (1 : Int32))).toInt < _; omega)
set_option maxHeartbeats 4000000 in
theorem s_X11_allChances {ad : Nat → Nat} {d : Nat} {m : Wm} {x0 : Int32} (w : WT m) (i1 : (0 : Int) ≤ x0.toInt) (i2 : x0.toInt ≤ (6 : Int)) : Ct ad μX11_allChances d [.int x0] m (fun r m' => WT m' ∧ Fx (RS []) m m' ∧ ∃ v : Int64, r = some (.long v)) := by
  have f : Fx (RS []) m m := Fx.rf
  refine v_X11_allChances  ?_
  exact (l_X11_allChances (m0 := m) 1000000) _ _ _ _ w f (by show (0 : Int) ≤ (x0).toInt; omega) (by show (x0).toInt ≤ (6 : Int); omega) (by show (0 : Int) ≤ (0 : Int); omega) (by show (0 : Int) ≤ (6 : Int); omega) (by show 6 - (0 : Int) < _; omega)
set_option maxHeartbeats 4000000 in
theorem l_X11_tellFraction {ad : Nat → Nat} {d : Nat} {m0 : Wm}  : ∀ n : Nat, (∀ (m : Wm) (x9 : Int32) (y1 y3 y5 y7 : Int64), WT m → Fx (RS [9]) m0 m → (0 : Int) ≤ x9.toInt → x9.toInt ≤ (200 : Int) → 200 - x9.toInt + 1 < (n : Int) → AW ad E0 μX11_tellFraction (d + 1) (fun r m' => WT m' ∧ Fx (RS [9]) m0 m' ∧ r = none) 9 [(0, .ref (ad 0)), (1, .long y1), (3, .long y3), (5, .long y5), (7, .long y7), (9, .int x9)] [] m) ∧ (∀ (m : Wm) (y1 y3 y5 : Int64), WT m → Fx (RS [9]) m0 m → 0 + 0 < (n : Int) → AW ad E0 μX11_tellFraction (d + 1) (fun r m' => WT m' ∧ Fx (RS [9]) m0 m' ∧ r = none) 45 [(0, .ref (ad 0)), (1, .long y1), (3, .long y3), (5, .long y5)] [] m) := by
  intro n
  induction n with
  | zero =>
    refine ⟨?_, ?_⟩ <;> intros <;> exfalso <;> omega
  | succ n ih =>
    refine ⟨?_, ?_⟩
    · intro m x9 y1 y3 y5 y7 w f j1 j2 hn
      refine g_X11_tellFraction_9  ?_
      refine ⟨?_, ?_⟩
      · intro c1
        have k2 := y_lel (n := 200) rfl c1
        exact ih.2 _ _ _ _ w f (by show 0 + 0 < _; omega)
      · intro c3
        have k4 := y_nlel (n := 200) rfl c3
        refine ⟨?_, ?_⟩
        · intro c5
          exact ih.2 _ _ _ _ w f (by show 0 + 0 < _; omega)
        · intro c6
          refine ⟨?_, ?_⟩
          · exact fun q => c6 ((lg_cmp_eq _ _).mpr q)
          · have t7 := ti_addc (x := x9) (y := (1 : Int32)) (c := 1) rfl (by omega)
            exact ih.1 _ _ _ _ _ _ w f (by show (0 : Int) ≤ ((x9 + (1 : Int32))).toInt; omega) (by show ((x9 + (1 : Int32))).toInt ≤ (200 : Int); omega) (by show 200 - ((x9 + (1 : Int32))).toInt + 1 < _; omega)
    · intro m y1 y3 y5 w f  hn
      refine g_X11_tellFraction_45  ?_
      refine ⟨?_, ?_⟩
      · intro c1
        refine ⟨?_, ?_⟩
        · exact fun q => c1 ((lg_cmp_eq _ _).mpr q)
        · refine ⟨?_, ?_⟩
          · exact fun q => c1 ((lg_cmp_eq _ _).mpr q)
          · refine (s_X11_tell_ w).to ?_
            rintro _ m1 ⟨w_m1, g2, rfl⟩
            have f_m1 : Fx (RS [9]) m0 m1 := f.tr g2 (RS_sub rfl)
            refine ⟨rfl, ?_⟩
            exact ⟨w_m1, f_m1, rfl⟩
      · intro c3
        refine (s_X11_tell_ w).to ?_
        rintro _ m2 ⟨w_m2, g4, rfl⟩
        have f_m2 : Fx (RS [9]) m0 m2 := f.tr g4 (RS_sub rfl)
        refine ⟨rfl, ?_⟩
        exact ⟨w_m2, f_m2, rfl⟩
set_option maxHeartbeats 4000000 in
theorem s_X11_tellFraction {ad : Nat → Nat} {d : Nat} {m : Wm} {y1 y3 : Int64} (w : WT m) : Ct ad μX11_tellFraction (d + 1) [.ref (ad 0), .long y1, .long y3] m (fun r m' => WT m' ∧ Fx (RS [9]) m m' ∧ r = none) := by
  have f : Fx (RS [9]) m m := Fx.rf
  refine v_X11_tellFraction  ?_
  exact (l_X11_tellFraction (m0 := m) 1000000).1 _ _ _ _ _ _ w f (by show (0 : Int) ≤ (0 : Int); omega) (by show (0 : Int) ≤ (200 : Int); omega) (by show 200 - (0 : Int) + 1 < _; omega)
set_option maxHeartbeats 4000000 in
theorem s_X11_mean {ad : Nat → Nat} {d : Nat} {m : Wm} {x1 x2 : Int32} (w : WT m) : Ct ad μX11_mean (d + 7) [.ref (ad 0), .int x1, .int x2] m (fun r m' => WT m' ∧ Fx (RS [2, 9, 10, 12, 14]) m m' ∧ ∃ v : Int32, r = some (.int v)) := by
  have f : Fx (RS [2, 9, 10, 12, 14]) m m := Fx.rf
  refine v_X11_mean  ?_
  refine (s_X1_has w).to ?_
  rintro _ m1 ⟨w_m1, g1, v2, rfl, p3, p4, p2⟩
  have f_m1 : Fx (RS [2, 9, 10, 12, 14]) m m1 := f.tr g1 (RS_sub rfl)
  have p5 : (v2.toInt = 0 ∧ ((x1).toInt < 0 ∨ ((m.1 3 3)).toInt ≤ (x1).toInt)) ∨ (v2.toInt = 1 ∧ 0 ≤ (x1).toInt ∧ (x1).toInt < ((m.1 3 3)).toInt ∧ (x1).toInt ≤ 7) := p2
  clear p2
  refine ⟨v2, rfl, ?_⟩
  refine ⟨?_, ?_⟩
  · intro c6
    have k7 := y_eqr (n := 0) rfl c6
    exact ⟨w_m1, f_m1, _, rfl⟩
  · intro c8
    have k9 := y_ner (n := 0) rfl c8
    refine (s_X1_knows w_m1).to ?_
    rintro _ m3 ⟨w_m3, g10, v4, rfl, p11, p12⟩
    have f_m3 : Fx (RS [2, 9, 10, 12, 14]) m m3 := f_m1.tr g10 (RS_sub rfl)
    refine ⟨v4, rfl, ?_⟩
    refine ⟨?_, ?_⟩
    · intro c13
      have k14 := y_eqr (n := 0) rfl c13
      exact ⟨w_m3, f_m3, _, rfl⟩
    · intro c15
      have k16 := y_ner (n := 0) rfl c15
      obtain ⟨r5, e17, q18⟩ := w_m3.r09
      refine ⟨r5, e17, Pl_of q18, ?_⟩
      refine ⟨?_, ?_⟩
      · intro c19
        have r20 := w_m3.pl (k := 5) q18 rfl rfl
        have k21 := y_ner (n := 0) rfl c19
        refine ⟨r5, e17, Pl_of q18, ?_⟩
        refine (s_X7_findLoop w_m3 q18).to ?_
        rintro _ m7 ⟨w_m7, g22, v8, rfl, p23, p24⟩
        have f_m7 : Fx (RS [2, 9, 10, 12, 14]) m m7 := f_m3.tr g22 (RS_sub rfl)
        refine ⟨v8, rfl, ?_⟩
        refine ⟨?_, ?_⟩
        · intro c25
          have k26 := y_ner (n := 0) rfl c25
          refine (s_X7_loopSum w_m7).to ?_
          rintro _ m9 ⟨w_m9, g27, v10, rfl⟩
          have f_m9 : Fx (RS [2, 9, 10, 12, 14]) m m9 := f_m7.tr g27 (RS_sub rfl)
          refine ⟨v10, rfl, ?_⟩
          refine (s_X11_tellFraction w_m9).to ?_
          rintro _ m11 ⟨w_m11, g28, rfl⟩
          have f_m11 : Fx (RS [2, 9, 10, 12, 14]) m m11 := f_m9.tr g28 (RS_sub rfl)
          refine ⟨rfl, ?_⟩
          exact ⟨w_m11, f_m11, _, rfl⟩
        · intro c29
          have k30 := y_eqr (n := 0) rfl c29
          exact ⟨w_m7, f_m7, _, rfl⟩
      · intro c31
        have r32 := w_m3.pl (k := 5) q18 rfl rfl
        have k33 := y_eqr (n := 0) rfl c31
        exact ⟨w_m3, f_m3, _, rfl⟩
set_option maxHeartbeats 4000000 in
theorem s_X11_soon {ad : Nat → Nat} {d : Nat} {m : Wm} {x1 x2 x3 : Int32} (w : WT m) : Ct ad μX11_soon (d + 7) [.ref (ad 0), .int x1, .int x2, .int x3] m (fun r m' => WT m' ∧ Fx (RS [2, 10, 12, 14]) m m' ∧ ∃ v : Int32, r = some (.int v)) := by
  have f : Fx (RS [2, 10, 12, 14]) m m := Fx.rf
  refine v_X11_soon  ?_
  refine (s_X1_has w).to ?_
  rintro _ m1 ⟨w_m1, g1, v2, rfl, p3, p4, p2⟩
  have f_m1 : Fx (RS [2, 10, 12, 14]) m m1 := f.tr g1 (RS_sub rfl)
  have p5 : (v2.toInt = 0 ∧ ((x1).toInt < 0 ∨ ((m.1 3 3)).toInt ≤ (x1).toInt)) ∨ (v2.toInt = 1 ∧ 0 ≤ (x1).toInt ∧ (x1).toInt < ((m.1 3 3)).toInt ∧ (x1).toInt ≤ 7) := p2
  clear p2
  refine ⟨v2, rfl, ?_⟩
  refine ⟨?_, ?_⟩
  · intro c6
    have k7 := y_eqr (n := 0) rfl c6
    exact ⟨w_m1, f_m1, _, rfl⟩
  · intro c8
    have k9 := y_ner (n := 0) rfl c8
    refine (s_X1_knows w_m1).to ?_
    rintro _ m3 ⟨w_m3, g10, v4, rfl, p11, p12⟩
    have f_m3 : Fx (RS [2, 10, 12, 14]) m m3 := f_m1.tr g10 (RS_sub rfl)
    refine ⟨v4, rfl, ?_⟩
    refine ⟨?_, ?_⟩
    · intro c13
      have k14 := y_eqr (n := 0) rfl c13
      exact ⟨w_m3, f_m3, _, rfl⟩
    · intro c15
      have k16 := y_ner (n := 0) rfl c15
      refine ⟨?_, ?_⟩
      · intro c17
        have k18 := y_ltr (n := 0) rfl c17
        exact ⟨w_m3, f_m3, _, rfl⟩
      · intro c19
        have k20 := y_nltr (n := 0) rfl c19
        refine ⟨?_, ?_⟩
        · intro c21
          have k22 := y_ltl (n := 7) rfl c21
          exact ⟨w_m3, f_m3, _, rfl⟩
        · intro c23
          have k24 := y_nltl (n := 7) rfl c23
          obtain ⟨r5, e25, q26⟩ := w_m3.r09
          refine ⟨r5, e25, Pl_of q26, ?_⟩
          refine ⟨?_, ?_⟩
          · intro c27
            have r28 := w_m3.pl (k := 5) q26 rfl rfl
            have k29 := y_ner (n := 0) rfl c27
            refine ⟨r5, e25, Pl_of q26, ?_⟩
            refine (s_X7_findLoop w_m3 q26).to ?_
            rintro _ m7 ⟨w_m7, g30, v8, rfl, p31, p32⟩
            have f_m7 : Fx (RS [2, 10, 12, 14]) m m7 := f_m3.tr g30 (RS_sub rfl)
            refine ⟨v8, rfl, ?_⟩
            refine (s_X9_firstWith w_m7).to ?_
            rintro _ m9 ⟨w_m9, g33, v10, rfl, p34, p35⟩
            have f_m9 : Fx (RS [2, 10, 12, 14]) m m9 := f_m7.tr g33 (RS_sub rfl)
            refine ⟨v10, rfl, ?_⟩
            refine ⟨?_, ?_⟩
            · intro c36
              have k37 := y_ltr (n := 0) rfl c36
              refine ⟨?_, ?_⟩
              · intro c38
                have k39 := y_eqr (n := 0) rfl c38
                exact ⟨w_m9, f_m9, _, rfl⟩
              · intro c40
                have k41 := y_ner (n := 0) rfl c40
                exact ⟨w_m9, f_m9, _, rfl⟩
            · intro c42
              have k43 := y_nltr (n := 0) rfl c42
              exact ⟨w_m9, f_m9, _, rfl⟩
          · intro c44
            have r45 := w_m3.pl (k := 5) q26 rfl rfl
            have k46 := y_eqr (n := 0) rfl c44
            exact ⟨w_m3, f_m3, _, rfl⟩
set_option maxHeartbeats 4000000 in
theorem l_X11_wins {ad : Nat → Nat} {d : Nat} {m0 : Wm}  : ∀ n : Nat, (∀ (m : Wm) (x1 x2 x3 x6 : Int32) (y4 : Int64), WT m → Fx (RS [2, 9, 12, 14]) m0 m → (0 : Int) ≤ x1.toInt → x1.toInt ≤ (7 : Int) → (1 : Int) ≤ x2.toInt → x2.toInt ≤ (6 : Int) → (0 : Int) ≤ x6.toInt → x6.toInt ≤ (64 : Int) → 64 - x6.toInt < (n : Int) → AW ad E0 μX11_wins (d + 7) (fun r m' => WT m' ∧ Fx (RS [2, 9, 12, 14]) m0 m' ∧ ∃ v : Int32, r = some (.int v)) 49 [(0, .ref (ad 0)), (1, .int x1), (2, .int x2), (3, .int x3), (4, .long y4), (6, .int x6)] [] m) := by
  intro n
  induction n with
  | zero =>
    intros
    exfalso
    omega
  | succ n ih =>
    intro m x1 x2 x3 x6 y4 w f j1 j2 j3 j4 j5 j6 hn
    refine g_X11_wins_49  ?_
    refine ⟨?_, ?_⟩
    · intro c1
      have t2 := t_shl1 (x := x2) (by omega) (by omega)
      have k3 := z_le c1
      refine (s_X11_allChances w (by show (0 : Int) ≤ (x2).toInt; omega) (by show (x2).toInt ≤ (6 : Int); omega)).to ?_
      rintro _ m1 ⟨w_m1, g4, w2, rfl⟩
      have f_m1 : Fx (RS [2, 9, 12, 14]) m0 m1 := f.tr g4 (RS_sub rfl)
      refine ⟨w2, rfl, ?_⟩
      refine (s_X11_tellFraction w_m1).to ?_
      rintro _ m3 ⟨w_m3, g5, rfl⟩
      have f_m3 : Fx (RS [2, 9, 12, 14]) m0 m3 := f_m1.tr g5 (RS_sub rfl)
      refine ⟨rfl, ?_⟩
      exact ⟨w_m3, f_m3, _, rfl⟩
    · intro c6
      have t7 := t_shl1 (x := x2) (by omega) (by omega)
      have k8 := z_nle c6
      obtain ⟨r4, e9, q10⟩ := w.r09
      refine ⟨r4, e9, Pl_of q10, ?_⟩
      refine (s_X7_follow w q10 (by show (0 : Int) ≤ (x2).toInt; omega) (by show (x2).toInt ≤ (6 : Int); omega)).to ?_
      rintro _ m5 ⟨w_m5, g11, w6, rfl⟩
      have f_m5 : Fx (RS [2, 9, 12, 14]) m0 m5 := f.tr g11 (RS_sub rfl)
      refine ⟨w6, rfl, ?_⟩
      refine ⟨?_, ?_⟩
      · intro c12
        have t13 := ti_addc (x := x6) (y := (1 : Int32)) (c := 1) rfl (by omega)
        exact ih _ _ _ _ _ _ w_m5 f_m5 (by show (0 : Int) ≤ (x1).toInt; omega) (by show (x1).toInt ≤ (7 : Int); omega) (by show (1 : Int) ≤ (x2).toInt; omega) (by show (x2).toInt ≤ (6 : Int); omega) (by show (0 : Int) ≤ ((x6 + (1 : Int32))).toInt; omega) (by show ((x6 + (1 : Int32))).toInt ≤ (64 : Int); omega) (by show 64 - ((x6 + (1 : Int32))).toInt < _; omega)
      · intro c14
        refine ⟨?_, ?_⟩
        · exact vpi (by omega) (by omega)
        · refine ⟨?_, ?_⟩
          · intro c15
            have k16 := z_ne c15
            have t17 := ti_addc (x := x6) (y := (1 : Int32)) (c := 1) rfl (by omega)
            exact ih _ _ _ _ _ _ w_m5 f_m5 (by show (0 : Int) ≤ (x1).toInt; omega) (by show (x1).toInt ≤ (7 : Int); omega) (by show (1 : Int) ≤ (x2).toInt; omega) (by show (x2).toInt ≤ (6 : Int); omega) (by show (0 : Int) ≤ ((x6 + (1 : Int32))).toInt; omega) (by show ((x6 + (1 : Int32))).toInt ≤ (64 : Int); omega) (by show 64 - ((x6 + (1 : Int32))).toInt < _; omega)
          · intro c18
            have k19 := z_eq c18
            have t20 := ti_addc (x := x6) (y := (1 : Int32)) (c := 1) rfl (by omega)
            exact ih _ _ _ _ _ _ w_m5 f_m5 (by show (0 : Int) ≤ (x1).toInt; omega) (by show (x1).toInt ≤ (7 : Int); omega) (by show (1 : Int) ≤ (x2).toInt; omega) (by show (x2).toInt ≤ (6 : Int); omega) (by show (0 : Int) ≤ ((x6 + (1 : Int32))).toInt; omega) (by show ((x6 + (1 : Int32))).toInt ≤ (64 : Int); omega) (by show 64 - ((x6 + (1 : Int32))).toInt < _; omega)
set_option maxHeartbeats 4000000 in
theorem s_X11_wins {ad : Nat → Nat} {d : Nat} {m : Wm} {x1 x2 x3 : Int32} (w : WT m) : Ct ad μX11_wins (d + 7) [.ref (ad 0), .int x1, .int x2, .int x3] m (fun r m' => WT m' ∧ Fx (RS [2, 9, 12, 14]) m m' ∧ ∃ v : Int32, r = some (.int v)) := by
  have f : Fx (RS [2, 9, 12, 14]) m m := Fx.rf
  refine v_X11_wins  ?_
  refine (s_X1_has w).to ?_
  rintro _ m1 ⟨w_m1, g1, v2, rfl, p3, p4, p2⟩
  have f_m1 : Fx (RS [2, 9, 12, 14]) m m1 := f.tr g1 (RS_sub rfl)
  have p5 : (v2.toInt = 0 ∧ ((x1).toInt < 0 ∨ ((m.1 3 3)).toInt ≤ (x1).toInt)) ∨ (v2.toInt = 1 ∧ 0 ≤ (x1).toInt ∧ (x1).toInt < ((m.1 3 3)).toInt ∧ (x1).toInt ≤ 7) := p2
  clear p2
  refine ⟨v2, rfl, ?_⟩
  refine ⟨?_, ?_⟩
  · intro c6
    have k7 := y_eqr (n := 0) rfl c6
    exact ⟨w_m1, f_m1, _, rfl⟩
  · intro c8
    have k9 := y_ner (n := 0) rfl c8
    refine ⟨?_, ?_⟩
    · intro c10
      have k11 := y_ltr (n := 1) rfl c10
      exact ⟨w_m1, f_m1, _, rfl⟩
    · intro c12
      have k13 := y_nltr (n := 1) rfl c12
      refine ⟨?_, ?_⟩
      · intro c14
        have k15 := y_ltl (n := 6) rfl c14
        exact ⟨w_m1, f_m1, _, rfl⟩
      · intro c16
        have k17 := y_nltl (n := 6) rfl c16
        refine ⟨?_, ?_⟩
        · intro c18
          have k19 := y_ltr (n := 0) rfl c18
          exact ⟨w_m1, f_m1, _, rfl⟩
        · intro c20
          have k21 := y_nltr (n := 0) rfl c20
          refine ⟨?_, ?_⟩
          · intro c22
            have k23 := z_lt c22
            exact ⟨w_m1, f_m1, _, rfl⟩
          · intro c24
            have k25 := z_nlt c24
            obtain ⟨r3, e26, q27⟩ := w_m1.r09
            refine ⟨r3, e26, Pl_of q27, ?_⟩
            refine ⟨?_, ?_⟩
            · intro c28
              have r29 := w_m1.pl (k := 5) q27 rfl rfl
              have k30 := y_ner (n := 0) rfl c28
              exact (l_X11_wins (m0 := m) 1000000) _ _ _ _ _ _ w_m1 f_m1 (by show (0 : Int) ≤ (x1).toInt; omega) (by show (x1).toInt ≤ (7 : Int); omega) (by show (1 : Int) ≤ (x2).toInt; omega) (by show (x2).toInt ≤ (6 : Int); omega) (by show (0 : Int) ≤ (0 : Int); omega) (by show (0 : Int) ≤ (64 : Int); omega) (by show 64 - (0 : Int) < _; omega)
            · intro c31
              have r32 := w_m1.pl (k := 5) q27 rfl rfl
              have k33 := y_eqr (n := 0) rfl c31
              exact ⟨w_m1, f_m1, _, rfl⟩
set_option maxHeartbeats 4000000 in
theorem l_X11_hopes {ad : Nat → Nat} {d : Nat} {m0 : Wm}  : ∀ n : Nat, (∀ (m : Wm) (x1 x4 x5 x6 : Int32) (y2 : Int64), WT m → Fx (RS [2, 9, 12, 14]) m0 m → (1 : Int) ≤ x1.toInt → x1.toInt ≤ (6 : Int) → (0 : Int) ≤ x6.toInt → x6.toInt ≤ (64 : Int) → 64 - x6.toInt < (n : Int) → AW ad E0 μX11_hopes (d + 7) (fun r m' => WT m' ∧ Fx (RS [2, 9, 12, 14]) m0 m' ∧ ∃ v : Int32, r = some (.int v)) 36 [(0, .ref (ad 0)), (1, .int x1), (2, .long y2), (4, .int x4), (5, .int x5), (6, .int x6)] [] m) := by
  intro n
  induction n with
  | zero =>
    intros
    exfalso
    omega
  | succ n ih =>
    intro m x1 x4 x5 x6 y2 w f j1 j2 j3 j4 hn
    refine g_X11_hopes_36  ?_
    refine ⟨?_, ?_⟩
    · intro c1
      have t2 := t_shl1 (x := x1) (by omega) (by omega)
      have k3 := z_le c1
      refine (s_X11_allChances w (by show (0 : Int) ≤ (x1).toInt; omega) (by show (x1).toInt ≤ (6 : Int); omega)).to ?_
      rintro _ m1 ⟨w_m1, g4, w2, rfl⟩
      have f_m1 : Fx (RS [2, 9, 12, 14]) m0 m1 := f.tr g4 (RS_sub rfl)
      refine ⟨w2, rfl, ?_⟩
      refine (s_X11_tellFraction w_m1).to ?_
      rintro _ m3 ⟨w_m3, g5, rfl⟩
      have f_m3 : Fx (RS [2, 9, 12, 14]) m0 m3 := f_m1.tr g5 (RS_sub rfl)
      refine ⟨rfl, ?_⟩
      have w6 : WT (uL m3 150 ((2 : Int32).toNatClampNeg) x4.toInt64) := w_m3.l
      have f6 : Fx (RS [2, 9, 12, 14]) m0 (uL m3 150 ((2 : Int32).toNatClampNeg) x4.toInt64) := f_m3.l rfl
      have w7 : WT (uL (uL m3 150 ((2 : Int32).toNatClampNeg) x4.toInt64) 150 ((3 : Int32).toNatClampNeg) x5.toInt64) := w6.l
      have f7 : Fx (RS [2, 9, 12, 14]) m0 (uL (uL m3 150 ((2 : Int32).toNatClampNeg) x4.toInt64) 150 ((3 : Int32).toNatClampNeg) x5.toInt64) := f6.l rfl
      have w8 : WT (uI (uL (uL m3 150 ((2 : Int32).toNatClampNeg) x4.toInt64) 150 ((3 : Int32).toNatClampNeg) x5.toInt64) 0 18 (4 : Int32)) := w7.t rfl (by show (0 : Int) ≤ (4 : Int); omega) (by show (4 : Int) ≤ 10; omega)
      have f8 : Fx (RS [2, 9, 12, 14]) m0 (uI (uL (uL m3 150 ((2 : Int32).toNatClampNeg) x4.toInt64) 150 ((3 : Int32).toNatClampNeg) x5.toInt64) 0 18 (4 : Int32)) := f7.i rfl
      exact ⟨w8, f8, _, rfl⟩
    · intro c9
      have t10 := t_shl1 (x := x1) (by omega) (by omega)
      have k11 := z_nle c9
      obtain ⟨r4, e12, q13⟩ := w.r09
      refine ⟨r4, e12, Pl_of q13, ?_⟩
      refine (s_X7_follow w q13 (by show (0 : Int) ≤ (x1).toInt; omega) (by show (x1).toInt ≤ (6 : Int); omega)).to ?_
      rintro _ m5 ⟨w_m5, g14, w6, rfl⟩
      have f_m5 : Fx (RS [2, 9, 12, 14]) m0 m5 := f.tr g14 (RS_sub rfl)
      refine ⟨w6, rfl, ?_⟩
      refine ⟨?_, ?_⟩
      · intro c15
        have t16 := ti_addc (x := x6) (y := (1 : Int32)) (c := 1) rfl (by omega)
        exact ih _ _ _ _ _ _ w_m5 f_m5 (by show (1 : Int) ≤ (x1).toInt; omega) (by show (x1).toInt ≤ (6 : Int); omega) (by show (0 : Int) ≤ ((x6 + (1 : Int32))).toInt; omega) (by show ((x6 + (1 : Int32))).toInt ≤ (64 : Int); omega) (by show 64 - ((x6 + (1 : Int32))).toInt < _; omega)
      · intro c17
        refine (s_X1_total w_m5 SS_167).to ?_
        rintro _ m7 ⟨w_m7, g18, v8, rfl⟩
        have f_m7 : Fx (RS [2, 9, 12, 14]) m0 m7 := f_m5.tr g18 (RS_sub rfl)
        refine ⟨v8, rfl, ?_⟩
        have t19 := ti_addc (x := x6) (y := (1 : Int32)) (c := 1) rfl (by omega)
        exact ih _ _ _ _ _ _ w_m7 f_m7 (by show (1 : Int) ≤ (x1).toInt; omega) (by show (x1).toInt ≤ (6 : Int); omega) (by show (0 : Int) ≤ ((x6 + (1 : Int32))).toInt; omega) (by show ((x6 + (1 : Int32))).toInt ≤ (64 : Int); omega) (by show 64 - ((x6 + (1 : Int32))).toInt < _; omega)
set_option maxHeartbeats 4000000 in
theorem s_X11_hopes {ad : Nat → Nat} {d : Nat} {m : Wm} {x1 : Int32} (w : WT m) : Ct ad μX11_hopes (d + 7) [.ref (ad 0), .int x1] m (fun r m' => WT m' ∧ Fx (RS [2, 9, 12, 14]) m m' ∧ ∃ v : Int32, r = some (.int v)) := by
  have f : Fx (RS [2, 9, 12, 14]) m m := Fx.rf
  refine v_X11_hopes  ?_
  refine ⟨?_, ?_⟩
  · intro c1
    have k2 := y_ltr (n := 1) rfl c1
    exact ⟨w, f, _, rfl⟩
  · intro c3
    have k4 := y_nltr (n := 1) rfl c3
    refine ⟨?_, ?_⟩
    · intro c5
      have k6 := y_ltl (n := 6) rfl c5
      exact ⟨w, f, _, rfl⟩
    · intro c7
      have k8 := y_nltl (n := 6) rfl c7
      obtain ⟨r1, e9, q10⟩ := w.r09
      refine ⟨r1, e9, Pl_of q10, ?_⟩
      refine ⟨?_, ?_⟩
      · intro c11
        have r12 := w.pl (k := 5) q10 rfl rfl
        have k13 := y_ner (n := 0) rfl c11
        exact (l_X11_hopes (m0 := m) 1000000) _ _ _ _ _ _ w f (by show (1 : Int) ≤ (x1).toInt; omega) (by show (x1).toInt ≤ (6 : Int); omega) (by show (0 : Int) ≤ (0 : Int); omega) (by show (0 : Int) ≤ (64 : Int); omega) (by show 64 - (0 : Int) < _; omega)
      · intro c14
        have r15 := w.pl (k := 5) q10 rfl rfl
        have k16 := y_eqr (n := 0) rfl c14
        exact ⟨w, f, _, rfl⟩
set_option maxHeartbeats 4000000 in
theorem s_X11_tellWayTo {ad : Nat → Nat} {d : Nat} {m : Wm} {x1 : Int32} (w : WT m) (i1 : (-1 : Int) ≤ x1.toInt) (i2 : x1.toInt ≤ (2999 : Int)) : Ct ad μX11_tellWayTo (d + 1) [.ref (ad 0), .int x1] m (fun r m' => WT m' ∧ Fx (RS [9]) m m' ∧ ∃ v : Int32, r = some (.int v)) := by
  have f : Fx (RS [9]) m m := Fx.rf
  refine v_X11_tellWayTo  ?_
  refine ⟨?_, ?_⟩
  · intro c1
    have k2 := y_lel (n := 0) rfl c1
    refine (s_X6_fillWay w (by show (0 : Int) ≤ (x1).toInt; omega) (by show (x1).toInt ≤ (2999 : Int); omega)).to ?_
    rintro _ m1 ⟨w_m1, g3, rfl⟩
    have f_m1 : Fx (RS [9]) m m1 := f.tr g3 (RS_sub rfl)
    refine ⟨rfl, ?_⟩
    refine ⟨?_, ?_⟩
    · exact vpi (by omega) (by omega)
    · refine ⟨?_, ?_⟩
      · exact vpi (by omega) (by omega)
      · have r5 := w_m1.at (a := 165) (k := x1.toNatClampNeg) rfl
        have t6 := tn (x := x1) (by omega)
        have t7 := ti_ltv (a := (10 : Int32)) (b := (m1.1 165 x1.toNatClampNeg)) (c := (10 : Int32)) (d := (m1.1 165 x1.toNatClampNeg)) (A := (10)) (B := (m1.1 165 x1.toNatClampNeg).toInt) (C := (10)) (D := (m1.1 165 x1.toNatClampNeg).toInt) rfl rfl rfl rfl
        have w4 : WT (uI m1 0 18 (if (10 : Int32) < (m1.1 165 x1.toNatClampNeg) then (10 : Int32) else (m1.1 165 x1.toNatClampNeg))) := w_m1.t rfl (by show (0 : Int) ≤ ((if (10 : Int32) < (m1.1 165 x1.toNatClampNeg) then (10 : Int32) else (m1.1 165 x1.toNatClampNeg))).toInt; omega) (by show ((if (10 : Int32) < (m1.1 165 x1.toNatClampNeg) then (10 : Int32) else (m1.1 165 x1.toNatClampNeg))).toInt ≤ 10; omega)
        have f4 : Fx (RS [9]) m (uI m1 0 18 (if (10 : Int32) < (m1.1 165 x1.toNatClampNeg) then (10 : Int32) else (m1.1 165 x1.toNatClampNeg))) := f_m1.i rfl
        exact ⟨w4, f4, _, rfl⟩
  · intro c8
    have k9 := y_nlel (n := 0) rfl c8
    exact ⟨w, f, _, rfl⟩
set_option maxHeartbeats 4000000 in
theorem s_X11_top {ad : Nat → Nat} {d : Nat} {m : Wm} {x1 x2 x3 : Int32} (w : WT m) : Ct ad μX11_top (d + 7) [.ref (ad 0), .int x1, .int x2, .int x3] m (fun r m' => WT m' ∧ Fx (RS [2, 9, 10, 11, 14]) m m' ∧ ∃ v : Int32, r = some (.int v)) := by
  have f : Fx (RS [2, 9, 10, 11, 14]) m m := Fx.rf
  refine v_X11_top  ?_
  refine (s_X1_has w).to ?_
  rintro _ m1 ⟨w_m1, g1, v2, rfl, p3, p4, p2⟩
  have f_m1 : Fx (RS [2, 9, 10, 11, 14]) m m1 := f.tr g1 (RS_sub rfl)
  have p5 : (v2.toInt = 0 ∧ ((x1).toInt < 0 ∨ ((m.1 3 3)).toInt ≤ (x1).toInt)) ∨ (v2.toInt = 1 ∧ 0 ≤ (x1).toInt ∧ (x1).toInt < ((m.1 3 3)).toInt ∧ (x1).toInt ≤ 7) := p2
  clear p2
  refine ⟨v2, rfl, ?_⟩
  refine ⟨?_, ?_⟩
  · intro c6
    have k7 := y_eqr (n := 0) rfl c6
    exact ⟨w_m1, f_m1, _, rfl⟩
  · intro c8
    have k9 := y_ner (n := 0) rfl c8
    refine (s_X1_knows w_m1).to ?_
    rintro _ m3 ⟨w_m3, g10, v4, rfl, p11, p12⟩
    have f_m3 : Fx (RS [2, 9, 10, 11, 14]) m m3 := f_m1.tr g10 (RS_sub rfl)
    refine ⟨v4, rfl, ?_⟩
    refine ⟨?_, ?_⟩
    · intro c13
      have k14 := y_eqr (n := 0) rfl c13
      exact ⟨w_m3, f_m3, _, rfl⟩
    · intro c15
      have k16 := y_ner (n := 0) rfl c15
      refine ⟨?_, ?_⟩
      · intro c17
        have k18 := y_ltr (n := 0) rfl c17
        exact ⟨w_m3, f_m3, _, rfl⟩
      · intro c19
        have k20 := y_nltr (n := 0) rfl c19
        refine ⟨?_, ?_⟩
        · intro c21
          have k22 := y_ler (n := 7) rfl c21
          refine (s_X6_explore w_m3).to ?_
          rintro _ m5 ⟨w_m5, g23, v6, rfl, p24, p25⟩
          have f_m5 : Fx (RS [2, 9, 10, 11, 14]) m m5 := f_m3.tr g23 (RS_sub rfl)
          refine ⟨v6, rfl, ?_⟩
          refine ⟨?_, ?_⟩
          · intro c26
            have k27 := y_ner (n := 0) rfl c26
            refine (s_X9_firstWith w_m5).to ?_
            rintro _ m7 ⟨w_m7, g28, v8, rfl, p29, p30⟩
            have f_m7 : Fx (RS [2, 9, 10, 11, 14]) m m7 := f_m5.tr g28 (RS_sub rfl)
            refine ⟨v8, rfl, ?_⟩
            refine (s_X11_tellWayTo w_m7 (by show (-1 : Int) ≤ (v8).toInt; omega) (by show (v8).toInt ≤ (2999 : Int); omega)).to ?_
            rintro _ m9 ⟨w_m9, g31, v10, rfl⟩
            have f_m9 : Fx (RS [2, 9, 10, 11, 14]) m m9 := f_m7.tr g31 (RS_sub rfl)
            refine ⟨v10, rfl, ?_⟩
            exact ⟨w_m9, f_m9, _, rfl⟩
          · intro c32
            have k33 := y_eqr (n := 0) rfl c32
            exact ⟨w_m5, f_m5, _, rfl⟩
        · intro c34
          have k35 := y_nler (n := 7) rfl c34
          exact ⟨w_m3, f_m3, _, rfl⟩
set_option maxHeartbeats 4000000 in
theorem s_X11_quick {ad : Nat → Nat} {d : Nat} {m : Wm} {x1 : Int32} (w : WT m) : Ct ad μX11_quick (d + 7) [.ref (ad 0), .int x1] m (fun r m' => WT m' ∧ Fx (RS [2, 9, 10, 11, 14]) m m' ∧ ∃ v : Int32, r = some (.int v)) := by
  have f : Fx (RS [2, 9, 10, 11, 14]) m m := Fx.rf
  refine v_X11_quick  ?_
  refine (s_X6_explore w).to ?_
  rintro _ m1 ⟨w_m1, g1, v2, rfl, p2, p3⟩
  have f_m1 : Fx (RS [2, 9, 10, 11, 14]) m m1 := f.tr g1 (RS_sub rfl)
  refine ⟨v2, rfl, ?_⟩
  refine ⟨?_, ?_⟩
  · intro c4
    have k5 := y_ner (n := 0) rfl c4
    refine (s_X6_firstStrong w_m1).to ?_
    rintro _ m3 ⟨w_m3, g6, v4, rfl, p7, p8⟩
    have f_m3 : Fx (RS [2, 9, 10, 11, 14]) m m3 := f_m1.tr g6 (RS_sub rfl)
    refine ⟨v4, rfl, ?_⟩
    refine (s_X11_tellWayTo w_m3 (by show (-1 : Int) ≤ (v4).toInt; omega) (by show (v4).toInt ≤ (2999 : Int); omega)).to ?_
    rintro _ m5 ⟨w_m5, g9, v6, rfl⟩
    have f_m5 : Fx (RS [2, 9, 10, 11, 14]) m m5 := f_m3.tr g9 (RS_sub rfl)
    refine ⟨v6, rfl, ?_⟩
    exact ⟨w_m5, f_m5, _, rfl⟩
  · intro c10
    have k11 := y_eqr (n := 0) rfl c10
    exact ⟨w_m1, f_m1, _, rfl⟩
set_option maxHeartbeats 4000000 in
theorem s_X11_best {ad : Nat → Nat} {d : Nat} {m : Wm} {x1 x2 : Int32} (w : WT m) : Ct ad μX11_best (d + 7) [.ref (ad 0), .int x1, .int x2] m (fun r m' => WT m' ∧ Fx (RS [2, 9, 10, 11, 14]) m m' ∧ ∃ v : Int32, r = some (.int v)) := by
  have f : Fx (RS [2, 9, 10, 11, 14]) m m := Fx.rf
  refine v_X11_best  ?_
  refine (s_X1_has w).to ?_
  rintro _ m1 ⟨w_m1, g1, v2, rfl, p3, p4, p2⟩
  have f_m1 : Fx (RS [2, 9, 10, 11, 14]) m m1 := f.tr g1 (RS_sub rfl)
  have p5 : (v2.toInt = 0 ∧ ((x1).toInt < 0 ∨ ((m.1 3 3)).toInt ≤ (x1).toInt)) ∨ (v2.toInt = 1 ∧ 0 ≤ (x1).toInt ∧ (x1).toInt < ((m.1 3 3)).toInt ∧ (x1).toInt ≤ 7) := p2
  clear p2
  refine ⟨v2, rfl, ?_⟩
  refine ⟨?_, ?_⟩
  · intro c6
    have k7 := y_eqr (n := 0) rfl c6
    exact ⟨w_m1, f_m1, _, rfl⟩
  · intro c8
    have k9 := y_ner (n := 0) rfl c8
    refine ⟨?_, ?_⟩
    · intro c10
      have k11 := y_ltr (n := 0) rfl c10
      exact ⟨w_m1, f_m1, _, rfl⟩
    · intro c12
      have k13 := y_nltr (n := 0) rfl c12
      refine ⟨?_, ?_⟩
      · intro c14
        have k15 := y_ler (n := 9) rfl c14
        refine (s_X6_explore w_m1).to ?_
        rintro _ m3 ⟨w_m3, g16, v4, rfl, p17, p18⟩
        have f_m3 : Fx (RS [2, 9, 10, 11, 14]) m m3 := f_m1.tr g16 (RS_sub rfl)
        refine ⟨v4, rfl, ?_⟩
        refine ⟨?_, ?_⟩
        · intro c19
          have k20 := y_ner (n := 0) rfl c19
          refine (s_X6_greatestPower w_m3 (by show (0 : Int) ≤ (x1).toInt; omega) (by show (x1).toInt ≤ (7 : Int); omega)).to ?_
          rintro _ m5 ⟨w_m5, g21, v6, rfl⟩
          have f_m5 : Fx (RS [2, 9, 10, 11, 14]) m m5 := f_m3.tr g21 (RS_sub rfl)
          refine ⟨v6, rfl, ?_⟩
          refine ⟨?_, ?_⟩
          · have r22 := w_m5.at (a := 156) (k := 6) rfl
            exact vpi (by omega) (by omega)
          · refine (s_X11_tell w_m5).to ?_
            rintro _ m7 ⟨w_m7, g23, rfl⟩
            have f_m7 : Fx (RS [2, 9, 10, 11, 14]) m m7 := f_m5.tr g23 (RS_sub rfl)
            refine ⟨rfl, ?_⟩
            exact ⟨w_m7, f_m7, _, rfl⟩
        · intro c24
          have k25 := y_eqr (n := 0) rfl c24
          exact ⟨w_m3, f_m3, _, rfl⟩
      · intro c26
        have k27 := y_nler (n := 9) rfl c26
        exact ⟨w_m1, f_m1, _, rfl⟩
set_option maxHeartbeats 4000000 in
theorem s_X11_even {ad : Nat → Nat} {d : Nat} {m : Wm} {x1 : Int32} (w : WT m) : Ct ad μX11_even (d + 7) [.ref (ad 0), .int x1] m (fun r m' => WT m' ∧ Fx (RS [2, 9, 10, 11, 14]) m m' ∧ ∃ v : Int32, r = some (.int v)) := by
  have f : Fx (RS [2, 9, 10, 11, 14]) m m := Fx.rf
  refine v_X11_even  ?_
  refine ⟨?_, ?_⟩
  · intro c1
    have k2 := y_ltr (n := 0) rfl c1
    exact ⟨w, f, _, rfl⟩
  · intro c3
    have k4 := y_nltr (n := 0) rfl c3
    refine ⟨?_, ?_⟩
    · intro c5
      have k6 := y_ltl (n := 9) rfl c5
      exact ⟨w, f, _, rfl⟩
    · intro c7
      have k8 := y_nltl (n := 9) rfl c7
      refine ⟨?_, ?_⟩
      · intro c9
        have r10 := w.at (a := 3) (k := 3) rfl
        have k11 := y_ner (n := 0) rfl c9
        refine (s_X6_explore w).to ?_
        rintro _ m1 ⟨w_m1, g12, v2, rfl, p13, p14⟩
        have f_m1 : Fx (RS [2, 9, 10, 11, 14]) m m1 := f.tr g12 (RS_sub rfl)
        refine ⟨v2, rfl, ?_⟩
        refine ⟨?_, ?_⟩
        · intro c15
          have k16 := y_ner (n := 0) rfl c15
          refine (s_X6_leastGap w_m1).to ?_
          rintro _ m3 ⟨w_m3, g17, v4, rfl⟩
          have f_m3 : Fx (RS [2, 9, 10, 11, 14]) m m3 := f_m1.tr g17 (RS_sub rfl)
          refine ⟨v4, rfl, ?_⟩
          refine ⟨?_, ?_⟩
          · have r18 := w_m3.at (a := 156) (k := 6) rfl
            exact vpi (by omega) (by omega)
          · refine (s_X11_tell w_m3).to ?_
            rintro _ m5 ⟨w_m5, g19, rfl⟩
            have f_m5 : Fx (RS [2, 9, 10, 11, 14]) m m5 := f_m3.tr g19 (RS_sub rfl)
            refine ⟨rfl, ?_⟩
            exact ⟨w_m5, f_m5, _, rfl⟩
        · intro c20
          have k21 := y_eqr (n := 0) rfl c20
          exact ⟨w_m1, f_m1, _, rfl⟩
      · intro c22
        have r23 := w.at (a := 3) (k := 3) rfl
        have k24 := y_eqr (n := 0) rfl c22
        exact ⟨w, f, _, rfl⟩
set_option maxHeartbeats 4000000 in
theorem l_X11_all {ad : Nat → Nat} {d : Nat} {m0 : Wm}  : ∀ n : Nat, (∀ (m : Wm) (x1 x2 x3 x4 : Int32), WT m → Fx (RS [2, 9, 10, 11, 14]) m0 m → (0 : Int) ≤ x4.toInt → x4.toInt ≤ (3000 : Int) → 3000 - x4.toInt < (n : Int) → AW ad E0 μX11_all (d + 7) (fun r m' => WT m' ∧ Fx (RS [2, 9, 10, 11, 14]) m0 m' ∧ ∃ v : Int32, r = some (.int v)) 35 [(0, .ref (ad 0)), (1, .int x1), (2, .int x2), (3, .int x3), (4, .int x4)] [] m) := by
  intro n
  induction n with
  | zero =>
    intros
    exfalso
    omega
  | succ n ih =>
    intro m x1 x2 x3 x4 w f j1 j2 hn
    refine g_X11_all_35  ?_
    refine ⟨?_, ?_⟩
    · intro c1
      have r2 := w.at (a := 151) (k := 4) rfl
      have k3 := z_le c1
      refine (s_X11_tell__ w).to ?_
      rintro _ m1 ⟨w_m1, g4, rfl⟩
      have f_m1 : Fx (RS [2, 9, 10, 11, 14]) m0 m1 := f.tr g4 (RS_sub rfl)
      refine ⟨rfl, ?_⟩
      have r5 := w_m1.at (a := 151) (k := 4) rfl
      exact ⟨w_m1, f_m1, _, rfl⟩
    · intro c6
      have r7 := w.at (a := 151) (k := 4) rfl
      have k8 := z_nle c6
      refine (s_X9_total w (by show (0 : Int) ≤ (x4).toInt; omega) (by show (x4).toInt ≤ (2999 : Int); omega)).to ?_
      rintro _ m2 ⟨w_m2, g9, v3, rfl⟩
      have f_m2 : Fx (RS [2, 9, 10, 11, 14]) m0 m2 := f.tr g9 (RS_sub rfl)
      refine ⟨v3, rfl, ?_⟩
      refine ⟨?_, ?_⟩
      · exact vpi (by omega) (by omega)
      · have t10 := ti_addc (x := x4) (y := (1 : Int32)) (c := 1) rfl (by omega)
        exact ih _ _ _ _ _ w_m2 f_m2 (by show (0 : Int) ≤ ((x4 + (1 : Int32))).toInt; omega) (by show ((x4 + (1 : Int32))).toInt ≤ (3000 : Int); omega) (by show 3000 - ((x4 + (1 : Int32))).toInt < _; omega)
set_option maxHeartbeats 4000000 in
theorem s_X11_all {ad : Nat → Nat} {d : Nat} {m : Wm} (w : WT m) : Ct ad μX11_all (d + 7) [.ref (ad 0)] m (fun r m' => WT m' ∧ Fx (RS [2, 9, 10, 11, 14]) m m' ∧ ∃ v : Int32, r = some (.int v)) := by
  have f : Fx (RS [2, 9, 10, 11, 14]) m m := Fx.rf
  refine v_X11_all  ?_
  refine (s_X6_explore w).to ?_
  rintro _ m1 ⟨w_m1, g1, v2, rfl, p2, p3⟩
  have f_m1 : Fx (RS [2, 9, 10, 11, 14]) m m1 := f.tr g1 (RS_sub rfl)
  refine ⟨v2, rfl, ?_⟩
  refine ⟨?_, ?_⟩
  · intro c4
    have k5 := y_ner (n := 0) rfl c4
    exact (l_X11_all (m0 := m) 1000000) _ _ _ _ _ w_m1 f_m1 (by show (0 : Int) ≤ (0 : Int); omega) (by show (0 : Int) ≤ (3000 : Int); omega) (by show 3000 - (0 : Int) < _; omega)
  · intro c6
    have k7 := y_eqr (n := 0) rfl c6
    exact ⟨w_m1, f_m1, _, rfl⟩
set_option maxHeartbeats 4000000 in
theorem s_X11_powerAfter {ad : Nat → Nat} {d : Nat} {m : Wm} {x1 x2 x3 x4 : Int32} (w : WT m) (i1 : (0 : Int) ≤ x1.toInt) (i2 : x1.toInt ≤ (7 : Int)) (i3 : (0 : Int) ≤ x2.toInt) (i4 : x2.toInt ≤ (7 : Int)) (i5 : (0 : Int) ≤ x3.toInt) (i6 : x3.toInt ≤ (7 : Int)) : Ct ad μX11_powerAfter (d + 5) [.ref (ad 0), .int x1, .int x2, .int x3, .int x4] m (fun r m' => WT m' ∧ Fx (RS [2, 5, 14]) m m' ∧ ∃ v : Int32, r = some (.int v)) := by
  have f : Fx (RS [2, 5, 14]) m m := Fx.rf
  refine v_X11_powerAfter  ?_
  refine (s_X1_result w SS_26 (by show (0 : Int) ≤ (x2).toInt; omega) (by show (x2).toInt ≤ (7 : Int); omega) (by show (0 : Int) ≤ (x3).toInt; omega) (by show (x3).toInt ≤ (7 : Int); omega)).to ?_
  rintro _ m1 ⟨w_m1, g1, v2, rfl, p2, p3⟩
  have f_m1 : Fx (RS [2, 5, 14]) m m1 := f.tr g1 (RS_sub rfl)
  refine ⟨v2, rfl, ?_⟩
  refine (s_X1_settle w_m1 SS_26 (by show (0 : Int) ≤ (x2).toInt; omega) (by show (x2).toInt ≤ (7 : Int); omega) (by show (0 : Int) ≤ (x3).toInt; omega) (by show (x3).toInt ≤ (7 : Int); omega)).to ?_
  rintro _ m3 ⟨w_m3, g4, rfl⟩
  have f_m3 : Fx (RS [2, 5, 14]) m m3 := f_m1.tr g4 (RS_sub rfl)
  refine ⟨rfl, ?_⟩
  refine (s_X1_power w_m3 SS_26 (by show (0 : Int) ≤ (x1).toInt; omega) (by show (x1).toInt ≤ (7 : Int); omega)).to ?_
  rintro _ m4 ⟨w_m4, g5, v5, rfl⟩
  have f_m4 : Fx (RS [2, 5, 14]) m m4 := f_m3.tr g5 (RS_sub rfl)
  refine ⟨v5, rfl, ?_⟩
  refine (s_X8_copySkills w_m4 SS_26 SS_21).to ?_
  rintro _ m6 ⟨w_m6, g6, rfl⟩
  have f_m6 : Fx (RS [2, 5, 14]) m m6 := f_m4.tr g6 (RS_sub rfl)
  refine ⟨rfl, ?_⟩
  refine (s_X8_copySkills w_m6 SS_26 SS_21).to ?_
  rintro _ m7 ⟨w_m7, g7, rfl⟩
  have f_m7 : Fx (RS [2, 5, 14]) m m7 := f_m6.tr g7 (RS_sub rfl)
  refine ⟨rfl, ?_⟩
  exact ⟨w_m7, f_m7, _, rfl⟩
set_option maxHeartbeats 4000000 in
theorem l_X11_next {ad : Nat → Nat} {d : Nat} {m0 : Wm}  : ∀ n : Nat, (∀ (m : Wm) (x1 x2 x3 x4 : Int32), WT m → Fx (RS [2, 5, 9, 14]) m0 m → (0 : Int) ≤ x1.toInt → x1.toInt ≤ (7 : Int) → (0 : Int) ≤ x4.toInt → x4.toInt ≤ (3 : Int) → (3 - x4.toInt) * 1000 + 900 < (n : Int) → AW ad E0 μX11_next (d + 6) (fun r m' => WT m' ∧ Fx (RS [2, 5, 9, 14]) m0 m' ∧ ∃ v : Int32, r = some (.int v)) 45 [(0, .ref (ad 0)), (1, .int x1), (2, .int x2), (3, .int x3), (4, .int x4)] [] m) ∧ (∀ (m : Wm) (x1 x2 x3 x4 x5 : Int32), WT m → Fx (RS [2, 5, 9, 14]) m0 m → (0 : Int) ≤ x1.toInt → x1.toInt ≤ (7 : Int) → (0 : Int) ≤ x4.toInt → x4.toInt ≤ (2 : Int) → (0 : Int) ≤ x5.toInt → x5.toInt ≤ (8 : Int) → (3 - x4.toInt) * 1000 + (8 - x5.toInt) * 40 + 35 < (n : Int) → AW ad E0 μX11_next (d + 6) (fun r m' => WT m' ∧ Fx (RS [2, 5, 9, 14]) m0 m' ∧ ∃ v : Int32, r = some (.int v)) 54 [(0, .ref (ad 0)), (1, .int x1), (2, .int x2), (3, .int x3), (4, .int x4), (5, .int x5)] [] m) ∧ (∀ (m : Wm) (x1 x2 x3 x4 x5 x6 : Int32), WT m → Fx (RS [2, 5, 9, 14]) m0 m → (0 : Int) ≤ x1.toInt → x1.toInt ≤ (7 : Int) → (0 : Int) ≤ x4.toInt → x4.toInt ≤ (2 : Int) → (0 : Int) ≤ x5.toInt → x5.toInt ≤ (7 : Int) → (0 : Int) ≤ x6.toInt → x6.toInt ≤ (8 : Int) → (3 - x4.toInt) * 1000 + (8 - x5.toInt) * 40 + (8 - x6.toInt) * 2 + 1 < (n : Int) → AW ad E0 μX11_next (d + 6) (fun r m' => WT m' ∧ Fx (RS [2, 5, 9, 14]) m0 m' ∧ ∃ v : Int32, r = some (.int v)) 72 [(0, .ref (ad 0)), (1, .int x1), (2, .int x2), (3, .int x3), (4, .int x4), (5, .int x5), (6, .int x6)] [] m) ∧ (∀ (m : Wm) (x1 x4 x5 x6 x7 : Int32), WT m → Fx (RS [2, 5, 9, 14]) m0 m → (0 : Int) ≤ x1.toInt → x1.toInt ≤ (7 : Int) → (0 : Int) ≤ x4.toInt → x4.toInt ≤ (2 : Int) → (0 : Int) ≤ x5.toInt → x5.toInt ≤ (7 : Int) → (0 : Int) ≤ x6.toInt → x6.toInt ≤ (7 : Int) → (3 - x4.toInt) * 1000 + (8 - x5.toInt) * 40 + (8 - x6.toInt) * 2 < (n : Int) → AW ad E0 μX11_next (d + 6) (fun r m' => WT m' ∧ Fx (RS [2, 5, 9, 14]) m0 m' ∧ ∃ v : Int32, r = some (.int v)) 108 [(0, .ref (ad 0)), (1, .int x1), (4, .int x4), (5, .int x5), (6, .int x6), (7, .int x7)] [] m) := by
  intro n
  induction n with
  | zero =>
    refine ⟨?_, ?_, ?_, ?_⟩ <;> intros <;> exfalso <;> omega
  | succ n ih =>
    refine ⟨?_, ?_, ?_, ?_⟩
    · intro m x1 x2 x3 x4 w f j1 j2 j3 j4 hn
      refine g_X11_next_45  ?_
      refine ⟨?_, ?_⟩
      · intro c1
        have k2 := y_lel (n := 3) rfl c1
        refine (s_X11_tell w).to ?_
        rintro _ m1 ⟨w_m1, g3, rfl⟩
        have f_m1 : Fx (RS [2, 5, 9, 14]) m0 m1 := f.tr g3 (RS_sub rfl)
        refine ⟨rfl, ?_⟩
        exact ⟨w_m1, f_m1, _, rfl⟩
      · intro c4
        have k5 := y_nlel (n := 3) rfl c4
        exact ih.2.1 _ _ _ _ _ _ w f (by show (0 : Int) ≤ (x1).toInt; omega) (by show (x1).toInt ≤ (7 : Int); omega) (by show (0 : Int) ≤ (x4).toInt; omega) (by show (x4).toInt ≤ (2 : Int); omega) (by show (0 : Int) ≤ (0 : Int); omega) (by show (0 : Int) ≤ (8 : Int); omega) (by show (3 - (x4).toInt) * 1000 + (8 - (0 : Int)) * 40 + 35 < _; omega)
    · intro m x1 x2 x3 x4 x5 w f j1 j2 j3 j4 j5 j6 hn
      refine g_X11_next_54  ?_
      refine ⟨?_, ?_⟩
      · intro c1
        have r2 := w.at (a := 3) (k := 3) rfl
        have k3 := z_le c1
        have t4 := ti_addc (x := x4) (y := (1 : Int32)) (c := 1) rfl (by omega)
        exact ih.1 _ _ _ _ _ w f (by show (0 : Int) ≤ (x1).toInt; omega) (by show (x1).toInt ≤ (7 : Int); omega) (by show (0 : Int) ≤ ((x4 + (1 : Int32))).toInt; omega) (by show ((x4 + (1 : Int32))).toInt ≤ (3 : Int); omega) (by show (3 - ((x4 + (1 : Int32))).toInt) * 1000 + 900 < _; omega)
      · intro c5
        have r6 := w.at (a := 3) (k := 3) rfl
        have k7 := z_nle c5
        have t8 := ti_addc (x := x5) (y := (1 : Int32)) (c := 1) rfl (by omega)
        exact ih.2.2.1 _ _ _ _ _ _ _ w f (by show (0 : Int) ≤ (x1).toInt; omega) (by show (x1).toInt ≤ (7 : Int); omega) (by show (0 : Int) ≤ (x4).toInt; omega) (by show (x4).toInt ≤ (2 : Int); omega) (by show (0 : Int) ≤ (x5).toInt; omega) (by show (x5).toInt ≤ (7 : Int); omega) (by show (0 : Int) ≤ ((x5 + (1 : Int32))).toInt; omega) (by show ((x5 + (1 : Int32))).toInt ≤ (8 : Int); omega) (by show (3 - (x4).toInt) * 1000 + (8 - (x5).toInt) * 40 + (8 - ((x5 + (1 : Int32))).toInt) * 2 + 1 < _; omega)
    · intro m x1 x2 x3 x4 x5 x6 w f j1 j2 j3 j4 j5 j6 j7 j8 hn
      refine g_X11_next_72  ?_
      refine ⟨?_, ?_⟩
      · intro c1
        have r2 := w.at (a := 3) (k := 3) rfl
        have k3 := z_le c1
        have t4 := ti_addc (x := x5) (y := (1 : Int32)) (c := 1) rfl (by omega)
        exact ih.2.1 _ _ _ _ _ _ w f (by show (0 : Int) ≤ (x1).toInt; omega) (by show (x1).toInt ≤ (7 : Int); omega) (by show (0 : Int) ≤ (x4).toInt; omega) (by show (x4).toInt ≤ (2 : Int); omega) (by show (0 : Int) ≤ ((x5 + (1 : Int32))).toInt; omega) (by show ((x5 + (1 : Int32))).toInt ≤ (8 : Int); omega) (by show (3 - (x4).toInt) * 1000 + (8 - ((x5 + (1 : Int32))).toInt) * 40 + 35 < _; omega)
      · intro c5
        have r6 := w.at (a := 3) (k := 3) rfl
        have k7 := z_nle c5
        refine (s_X11_powerAfter w (by show (0 : Int) ≤ (x1).toInt; omega) (by show (x1).toInt ≤ (7 : Int); omega) (by show (0 : Int) ≤ (x5).toInt; omega) (by show (x5).toInt ≤ (7 : Int); omega) (by show (0 : Int) ≤ (x6).toInt; omega) (by show (x6).toInt ≤ (7 : Int); omega)).to ?_
        rintro _ m1 ⟨w_m1, g8, v2, rfl⟩
        have f_m1 : Fx (RS [2, 5, 9, 14]) m0 m1 := f.tr g8 (RS_sub rfl)
        refine ⟨v2, rfl, ?_⟩
        refine ⟨?_, ?_⟩
        · intro c9
          have k10 := y_eqr (n := -1) rfl c9
          exact ih.2.2.2 _ _ _ _ _ _ w_m1 f_m1 (by show (0 : Int) ≤ (x1).toInt; omega) (by show (x1).toInt ≤ (7 : Int); omega) (by show (0 : Int) ≤ (x4).toInt; omega) (by show (x4).toInt ≤ (2 : Int); omega) (by show (0 : Int) ≤ (x5).toInt; omega) (by show (x5).toInt ≤ (7 : Int); omega) (by show (0 : Int) ≤ (x6).toInt; omega) (by show (x6).toInt ≤ (7 : Int); omega) (by show (3 - (x4).toInt) * 1000 + (8 - (x5).toInt) * 40 + (8 - (x6).toInt) * 2 < _; omega)
        · intro c11
          have k12 := y_ner (n := -1) rfl c11
          refine ⟨?_, ?_⟩
          · intro c13
            have k14 := z_le c13
            have t15 := ti_addc (x := x6) (y := (1 : Int32)) (c := 1) rfl (by omega)
            exact ih.2.2.1 _ _ _ _ _ _ _ w_m1 f_m1 (by show (0 : Int) ≤ (x1).toInt; omega) (by show (x1).toInt ≤ (7 : Int); omega) (by show (0 : Int) ≤ (x4).toInt; omega) (by show (x4).toInt ≤ (2 : Int); omega) (by show (0 : Int) ≤ (x5).toInt; omega) (by show (x5).toInt ≤ (7 : Int); omega) (by show (0 : Int) ≤ ((x6 + (1 : Int32))).toInt; omega) (by show ((x6 + (1 : Int32))).toInt ≤ (8 : Int); omega) (by show (3 - (x4).toInt) * 1000 + (8 - (x5).toInt) * 40 + (8 - ((x6 + (1 : Int32))).toInt) * 2 + 1 < _; omega)
          · intro c16
            have k17 := z_nle c16
            exact ih.2.2.2 _ _ _ _ _ _ w_m1 f_m1 (by show (0 : Int) ≤ (x1).toInt; omega) (by show (x1).toInt ≤ (7 : Int); omega) (by show (0 : Int) ≤ (x4).toInt; omega) (by show (x4).toInt ≤ (2 : Int); omega) (by show (0 : Int) ≤ (x5).toInt; omega) (by show (x5).toInt ≤ (7 : Int); omega) (by show (0 : Int) ≤ (x6).toInt; omega) (by show (x6).toInt ≤ (7 : Int); omega) (by show (3 - (x4).toInt) * 1000 + (8 - (x5).toInt) * 40 + (8 - (x6).toInt) * 2 < _; omega)
    · intro m x1 x4 x5 x6 x7 w f j1 j2 j3 j4 j5 j6 j7 j8 hn
      refine g_X11_next_108  ?_
      have t1 := ti_addc (x := x6) (y := (1 : Int32)) (c := 1) rfl (by omega)
      exact ih.2.2.1 _ _ _ _ _ _ _ w f (by show (0 : Int) ≤ (x1).toInt; omega) (by show (x1).toInt ≤ (7 : Int); omega) (by show (0 : Int) ≤ (x4).toInt; omega) (by show (x4).toInt ≤ (2 : Int); omega) (by show (0 : Int) ≤ (x5).toInt; omega) (by show (x5).toInt ≤ (7 : Int); omega) (by show (0 : Int) ≤ ((x6 + (1 : Int32))).toInt; omega) (by show ((x6 + (1 : Int32))).toInt ≤ (8 : Int); omega) (by show (3 - (x4).toInt) * 1000 + (8 - (x5).toInt) * 40 + (8 - ((x6 + (1 : Int32))).toInt) * 2 + 1 < _; omega)
set_option maxHeartbeats 4000000 in
theorem s_X11_next {ad : Nat → Nat} {d : Nat} {m : Wm} {x1 : Int32} (w : WT m) : Ct ad μX11_next (d + 6) [.ref (ad 0), .int x1] m (fun r m' => WT m' ∧ Fx (RS [2, 5, 9, 14]) m m' ∧ ∃ v : Int32, r = some (.int v)) := by
  have f : Fx (RS [2, 5, 9, 14]) m m := Fx.rf
  refine v_X11_next  ?_
  refine (s_X1_has w).to ?_
  rintro _ m1 ⟨w_m1, g1, v2, rfl, p3, p4, p2⟩
  have f_m1 : Fx (RS [2, 5, 9, 14]) m m1 := f.tr g1 (RS_sub rfl)
  have p5 : (v2.toInt = 0 ∧ ((x1).toInt < 0 ∨ ((m.1 3 3)).toInt ≤ (x1).toInt)) ∨ (v2.toInt = 1 ∧ 0 ≤ (x1).toInt ∧ (x1).toInt < ((m.1 3 3)).toInt ∧ (x1).toInt ≤ 7) := p2
  clear p2
  refine ⟨v2, rfl, ?_⟩
  refine ⟨?_, ?_⟩
  · intro c6
    have k7 := y_ner (n := 0) rfl c6
    refine ⟨?_, ?_⟩
    · intro c8
      have r9 := w_m1.at (a := 3) (k := 3) rfl
      have k10 := y_lel (n := 2) rfl c8
      refine (s_X8_copy w_m1 SS_26 SS_21).to ?_
      rintro _ m3 ⟨w_m3, g11, rfl⟩
      have f_m3 : Fx (RS [2, 5, 9, 14]) m m3 := f_m1.tr g11 (RS_sub rfl)
      refine ⟨rfl, ?_⟩
      exact (l_X11_next (m0 := m) 1000000).1 _ _ _ _ _ w_m3 f_m3 (by show (0 : Int) ≤ (x1).toInt; omega) (by show (x1).toInt ≤ (7 : Int); omega) (by show (0 : Int) ≤ (0 : Int); omega) (by show (0 : Int) ≤ (3 : Int); omega) (by show (3 - (0 : Int)) * 1000 + 900 < _; omega)
    · intro c12
      have r13 := w_m1.at (a := 3) (k := 3) rfl
      have k14 := y_nlel (n := 2) rfl c12
      exact ⟨w_m1, f_m1, _, rfl⟩
  · intro c15
    have k16 := y_eqr (n := 0) rfl c15
    exact ⟨w_m1, f_m1, _, rfl⟩
set_option maxHeartbeats 4000000 in
theorem s_X11_seen {ad : Nat → Nat} {d : Nat} {m : Wm} {x1 x2 x3 : Int32} (w : WT m) : Ct ad μX11_seen (d + 2) [.ref (ad 0), .int x1, .int x2, .int x3] m (fun r m' => WT m' ∧ Fx (RS [8]) m m' ∧ ∃ v : Int32, r = some (.int v) ∧ ((v.toInt = -1 ∧ (m'.1 0 15).toInt = (m.1 0 15).toInt ∧ (((x1.toInt < 0 ∨ (m.1 3 3).toInt ≤ x1.toInt ∨ x2.toInt < 0 ∨ (m.1 3 3).toInt ≤ x2.toInt ∨ x1.toInt = x2.toInt)) ∨ x3.toInt < 0 ∨ 2 < x3.toInt ∨ 12 ≤ (m.1 0 15).toInt)) ∨ (v.toInt = (m.1 0 15).toInt + 1 ∧ (m'.1 0 15).toInt = (m.1 0 15).toInt + 1 ∧ 0 ≤ x1.toInt ∧ x1.toInt < (m.1 3 3).toInt ∧ 0 ≤ x2.toInt ∧ x2.toInt < (m.1 3 3).toInt ∧ x1.toInt ≠ x2.toInt ∧ 0 ≤ x3.toInt ∧ x3.toInt ≤ 2 ∧ (m.1 0 15).toInt < 12))) := by
  have f : Fx (RS [8]) m m := Fx.rf
  refine v_X11_seen  ?_
  refine (s_X1_canMeet w).to ?_
  rintro _ m1 ⟨w_m1, g1, v2, rfl, p3, p4, p2⟩
  have f_m1 : Fx (RS [8]) m m1 := f.tr g1 (RS_sub rfl)
  have p5 : (v2.toInt = 0 ∧ ((x1).toInt < 0 ∨ ((m.1 3 3)).toInt ≤ (x1).toInt ∨ (x2).toInt < 0 ∨ ((m.1 3 3)).toInt ≤ (x2).toInt ∨ (x1).toInt = (x2).toInt)) ∨ (v2.toInt = 1 ∧ 0 ≤ (x1).toInt ∧ (x1).toInt < ((m.1 3 3)).toInt ∧ (x1).toInt ≤ 7 ∧ 0 ≤ (x2).toInt ∧ (x2).toInt < ((m.1 3 3)).toInt ∧ (x2).toInt ≤ 7 ∧ (x1).toInt ≠ (x2).toInt) := p2
  clear p2
  have e6 : (m1.1 3 3).toInt = ((m.1 3 3)).toInt := congrArg _ (g1.at (a := 3) (k := 3) (by decide))
  have e7 : (m1.1 0 15).toInt = ((m.1 0 15)).toInt := congrArg _ (g1.at (a := 0) (k := 15) (by decide))
  refine ⟨v2, rfl, ?_⟩
  refine ⟨?_, ?_⟩
  · intro c8
    have k9 := y_eqr (n := 0) rfl c8
    have r10 := w_m1.at (a := 0) (k := 15) rfl
    exact ⟨w_m1, f_m1, _, rfl, (by show ((-1 : Int) = -1 ∧ ((m1.1 0 15)).toInt = (m.1 0 15).toInt ∧ (((x1.toInt < 0 ∨ (m.1 3 3).toInt ≤ x1.toInt ∨ x2.toInt < 0 ∨ (m.1 3 3).toInt ≤ x2.toInt ∨ x1.toInt = x2.toInt)) ∨ x3.toInt < 0 ∨ 2 < x3.toInt ∨ 12 ≤ (m.1 0 15).toInt)) ∨ ((-1 : Int) = (m.1 0 15).toInt + 1 ∧ ((m1.1 0 15)).toInt = (m.1 0 15).toInt + 1 ∧ 0 ≤ x1.toInt ∧ x1.toInt < (m.1 3 3).toInt ∧ 0 ≤ x2.toInt ∧ x2.toInt < (m.1 3 3).toInt ∧ x1.toInt ≠ x2.toInt ∧ 0 ≤ x3.toInt ∧ x3.toInt ≤ 2 ∧ (m.1 0 15).toInt < 12); omega)⟩
  · intro c11
    have k12 := y_ner (n := 0) rfl c11
    refine ⟨?_, ?_⟩
    · intro c13
      have k14 := y_ltr (n := 0) rfl c13
      have r15 := w_m1.at (a := 0) (k := 15) rfl
      exact ⟨w_m1, f_m1, _, rfl, (by show ((-1 : Int) = -1 ∧ ((m1.1 0 15)).toInt = (m.1 0 15).toInt ∧ (((x1.toInt < 0 ∨ (m.1 3 3).toInt ≤ x1.toInt ∨ x2.toInt < 0 ∨ (m.1 3 3).toInt ≤ x2.toInt ∨ x1.toInt = x2.toInt)) ∨ x3.toInt < 0 ∨ 2 < x3.toInt ∨ 12 ≤ (m.1 0 15).toInt)) ∨ ((-1 : Int) = (m.1 0 15).toInt + 1 ∧ ((m1.1 0 15)).toInt = (m.1 0 15).toInt + 1 ∧ 0 ≤ x1.toInt ∧ x1.toInt < (m.1 3 3).toInt ∧ 0 ≤ x2.toInt ∧ x2.toInt < (m.1 3 3).toInt ∧ x1.toInt ≠ x2.toInt ∧ 0 ≤ x3.toInt ∧ x3.toInt ≤ 2 ∧ (m.1 0 15).toInt < 12); omega)⟩
    · intro c16
      have k17 := y_nltr (n := 0) rfl c16
      refine ⟨?_, ?_⟩
      · intro c18
        have k19 := y_ltl (n := 2) rfl c18
        have r20 := w_m1.at (a := 0) (k := 15) rfl
        exact ⟨w_m1, f_m1, _, rfl, (by show ((-1 : Int) = -1 ∧ ((m1.1 0 15)).toInt = (m.1 0 15).toInt ∧ (((x1.toInt < 0 ∨ (m.1 3 3).toInt ≤ x1.toInt ∨ x2.toInt < 0 ∨ (m.1 3 3).toInt ≤ x2.toInt ∨ x1.toInt = x2.toInt)) ∨ x3.toInt < 0 ∨ 2 < x3.toInt ∨ 12 ≤ (m.1 0 15).toInt)) ∨ ((-1 : Int) = (m.1 0 15).toInt + 1 ∧ ((m1.1 0 15)).toInt = (m.1 0 15).toInt + 1 ∧ 0 ≤ x1.toInt ∧ x1.toInt < (m.1 3 3).toInt ∧ 0 ≤ x2.toInt ∧ x2.toInt < (m.1 3 3).toInt ∧ x1.toInt ≠ x2.toInt ∧ 0 ≤ x3.toInt ∧ x3.toInt ≤ 2 ∧ (m.1 0 15).toInt < 12); omega)⟩
      · intro c21
        have k22 := y_nltl (n := 2) rfl c21
        refine ⟨?_, ?_⟩
        · intro c23
          have r24 := w_m1.at (a := 0) (k := 15) rfl
          have k25 := y_ltr (n := 12) rfl c23
          refine ⟨?_, ?_⟩
          · exact vpi (by omega) (by omega)
          · refine ⟨?_, ?_⟩
            · show vp_in (m1.1 0 15) 12
              exact vpi (by omega) (by omega)
            · refine ⟨?_, ?_⟩
              · show vp_in (m1.1 0 15) 12
                exact vpi (by omega) (by omega)
              · have w26 : WT (uI m1 146 ((m1.1 0 15).toNatClampNeg) x1) := w_m1.t rfl (by show (0 : Int) ≤ (x1).toInt; omega) (by show (x1).toInt ≤ 7; omega)
                have f26 : Fx (RS [8]) m (uI m1 146 ((m1.1 0 15).toNatClampNeg) x1) := f_m1.i rfl
                have w27 : WT (uI (uI m1 146 ((m1.1 0 15).toNatClampNeg) x1) 147 (((uI m1 146 ((m1.1 0 15).toNatClampNeg) x1).1 0 15).toNatClampNeg) x2) := w26.t rfl (by show (0 : Int) ≤ (x2).toInt; omega) (by show (x2).toInt ≤ 7; omega)
                have f27 : Fx (RS [8]) m (uI (uI m1 146 ((m1.1 0 15).toNatClampNeg) x1) 147 (((uI m1 146 ((m1.1 0 15).toNatClampNeg) x1).1 0 15).toNatClampNeg) x2) := f26.i rfl
                have w28 : WT (uI (uI (uI m1 146 ((m1.1 0 15).toNatClampNeg) x1) 147 (((uI m1 146 ((m1.1 0 15).toNatClampNeg) x1).1 0 15).toNatClampNeg) x2) 148 (((uI (uI m1 146 ((m1.1 0 15).toNatClampNeg) x1) 147 (((uI m1 146 ((m1.1 0 15).toNatClampNeg) x1).1 0 15).toNatClampNeg) x2).1 0 15).toNatClampNeg) x3) := w27.n rfl
                have f28 : Fx (RS [8]) m (uI (uI (uI m1 146 ((m1.1 0 15).toNatClampNeg) x1) 147 (((uI m1 146 ((m1.1 0 15).toNatClampNeg) x1).1 0 15).toNatClampNeg) x2) 148 (((uI (uI m1 146 ((m1.1 0 15).toNatClampNeg) x1) 147 (((uI m1 146 ((m1.1 0 15).toNatClampNeg) x1).1 0 15).toNatClampNeg) x2).1 0 15).toNatClampNeg) x3) := f27.i rfl
                have t30 := ti_addc (x := (m1.1 0 15)) (y := (1 : Int32)) (c := 1) rfl (by omega)
                have w29 : WT (uI (uI (uI (uI m1 146 ((m1.1 0 15).toNatClampNeg) x1) 147 (((uI m1 146 ((m1.1 0 15).toNatClampNeg) x1).1 0 15).toNatClampNeg) x2) 148 (((uI (uI m1 146 ((m1.1 0 15).toNatClampNeg) x1) 147 (((uI m1 146 ((m1.1 0 15).toNatClampNeg) x1).1 0 15).toNatClampNeg) x2).1 0 15).toNatClampNeg) x3) 0 15 (((uI (uI (uI m1 146 ((m1.1 0 15).toNatClampNeg) x1) 147 (((uI m1 146 ((m1.1 0 15).toNatClampNeg) x1).1 0 15).toNatClampNeg) x2) 148 (((uI (uI m1 146 ((m1.1 0 15).toNatClampNeg) x1) 147 (((uI m1 146 ((m1.1 0 15).toNatClampNeg) x1).1 0 15).toNatClampNeg) x2).1 0 15).toNatClampNeg) x3).1 0 15) + (1 : Int32))) := w28.t rfl (by show (0 : Int) ≤ (((m1.1 0 15) + (1 : Int32))).toInt; omega) (by show (((m1.1 0 15) + (1 : Int32))).toInt ≤ 12; omega)
                have f29 : Fx (RS [8]) m (uI (uI (uI (uI m1 146 ((m1.1 0 15).toNatClampNeg) x1) 147 (((uI m1 146 ((m1.1 0 15).toNatClampNeg) x1).1 0 15).toNatClampNeg) x2) 148 (((uI (uI m1 146 ((m1.1 0 15).toNatClampNeg) x1) 147 (((uI m1 146 ((m1.1 0 15).toNatClampNeg) x1).1 0 15).toNatClampNeg) x2).1 0 15).toNatClampNeg) x3) 0 15 (((uI (uI (uI m1 146 ((m1.1 0 15).toNatClampNeg) x1) 147 (((uI m1 146 ((m1.1 0 15).toNatClampNeg) x1).1 0 15).toNatClampNeg) x2) 148 (((uI (uI m1 146 ((m1.1 0 15).toNatClampNeg) x1) 147 (((uI m1 146 ((m1.1 0 15).toNatClampNeg) x1).1 0 15).toNatClampNeg) x2).1 0 15).toNatClampNeg) x3).1 0 15) + (1 : Int32))) := f28.i rfl
                exact ⟨w29, f29, _, rfl, (by show ((((m1.1 0 15) + (1 : Int32))).toInt = -1 ∧ (((m1.1 0 15) + (1 : Int32))).toInt = (m.1 0 15).toInt ∧ (((x1.toInt < 0 ∨ (m.1 3 3).toInt ≤ x1.toInt ∨ x2.toInt < 0 ∨ (m.1 3 3).toInt ≤ x2.toInt ∨ x1.toInt = x2.toInt)) ∨ x3.toInt < 0 ∨ 2 < x3.toInt ∨ 12 ≤ (m.1 0 15).toInt)) ∨ ((((m1.1 0 15) + (1 : Int32))).toInt = (m.1 0 15).toInt + 1 ∧ (((m1.1 0 15) + (1 : Int32))).toInt = (m.1 0 15).toInt + 1 ∧ 0 ≤ x1.toInt ∧ x1.toInt < (m.1 3 3).toInt ∧ 0 ≤ x2.toInt ∧ x2.toInt < (m.1 3 3).toInt ∧ x1.toInt ≠ x2.toInt ∧ 0 ≤ x3.toInt ∧ x3.toInt ≤ 2 ∧ (m.1 0 15).toInt < 12); omega)⟩
        · intro c31
          have r32 := w_m1.at (a := 0) (k := 15) rfl
          have k33 := y_nltr (n := 12) rfl c31
          exact ⟨w_m1, f_m1, _, rfl, (by show ((-1 : Int) = -1 ∧ ((m1.1 0 15)).toInt = (m.1 0 15).toInt ∧ (((x1.toInt < 0 ∨ (m.1 3 3).toInt ≤ x1.toInt ∨ x2.toInt < 0 ∨ (m.1 3 3).toInt ≤ x2.toInt ∨ x1.toInt = x2.toInt)) ∨ x3.toInt < 0 ∨ 2 < x3.toInt ∨ 12 ≤ (m.1 0 15).toInt)) ∨ ((-1 : Int) = (m.1 0 15).toInt + 1 ∧ ((m1.1 0 15)).toInt = (m.1 0 15).toInt + 1 ∧ 0 ≤ x1.toInt ∧ x1.toInt < (m.1 3 3).toInt ∧ 0 ≤ x2.toInt ∧ x2.toInt < (m.1 3 3).toInt ∧ x1.toInt ≠ x2.toInt ∧ 0 ≤ x3.toInt ∧ x3.toInt ≤ 2 ∧ (m.1 0 15).toInt < 12); omega)⟩
set_option maxHeartbeats 4000000 in
theorem l_X11_countThrowers {ad : Nat → Nat} {d : Nat} {m0 : Wm}  : ∀ n : Nat, (∀ (m : Wm) (x1 : Int32), WT m → Fx (RS [9]) m0 m → (0 : Int) ≤ x1.toInt → x1.toInt ≤ (11 : Int) → 0 * x1.toInt < (n : Int) → AW ad E0 μX11_countThrowers d (fun r m' => WT m' ∧ Fx (RS [9]) m0 m' ∧ r = none) 24 [(0, .ref (ad 0)), (1, .int x1)] [] m) := by
  intro n
  induction n with
  | zero =>
    intros
    exfalso
    omega
  | succ n ih =>
    intro m x1 w f j1 j2 hn
    refine g_X11_countThrowers_24  ?_
    refine ⟨?_, ?_⟩
    · exact vpi (by omega) (by omega)
    · refine ⟨?_, ?_⟩
      · intro c1
        have k2 := y_eqr (n := 1) rfl c1
        exact ⟨w, f, rfl⟩
      · intro c3
        have k4 := y_ner (n := 1) rfl c3
        refine ⟨?_, ?_⟩
        · exact vpi (by omega) (by omega)
        · refine ⟨?_, ?_⟩
          · have r5 := w.at (a := 147) (k := x1.toNatClampNeg) rfl
            exact vpi (by omega) (by omega)
          · refine ⟨?_, ?_⟩
            · have r6 := w.at (a := 147) (k := x1.toNatClampNeg) rfl
              exact vpi (by omega) (by omega)
            · have w7 : WT (uI m 149 ((m.1 147 x1.toNatClampNeg).toNatClampNeg) ((m.1 149 ((m.1 147 x1.toNatClampNeg).toNatClampNeg)) + (1 : Int32))) := w.n rfl
              have f7 : Fx (RS [9]) m0 (uI m 149 ((m.1 147 x1.toNatClampNeg).toNatClampNeg) ((m.1 149 ((m.1 147 x1.toNatClampNeg).toNatClampNeg)) + (1 : Int32))) := f.i rfl
              exact ⟨w7, f7, rfl⟩
set_option maxHeartbeats 4000000 in
theorem s_X11_countThrowers {ad : Nat → Nat} {d : Nat} {m : Wm} {x1 : Int32} (w : WT m) (i1 : (0 : Int) ≤ x1.toInt) (i2 : x1.toInt ≤ (11 : Int)) : Ct ad μX11_countThrowers d [.ref (ad 0), .int x1] m (fun r m' => WT m' ∧ Fx (RS [9]) m m' ∧ r = none) := by
  have f : Fx (RS [9]) m m := Fx.rf
  refine v_X11_countThrowers  ?_
  refine ⟨?_, ?_⟩
  · exact vpi (by omega) (by omega)
  · refine ⟨?_, ?_⟩
    · intro c1
      have k2 := y_eqr (n := 0) rfl c1
      exact (l_X11_countThrowers (m0 := m) 1000000) _ _ w f (by show (0 : Int) ≤ (x1).toInt; omega) (by show (x1).toInt ≤ (11 : Int); omega) (by show 0 * (x1).toInt < _; omega)
    · intro c3
      have k4 := y_ner (n := 0) rfl c3
      refine ⟨?_, ?_⟩
      · exact vpi (by omega) (by omega)
      · refine ⟨?_, ?_⟩
        · have r5 := w.at (a := 146) (k := x1.toNatClampNeg) rfl
          exact vpi (by omega) (by omega)
        · refine ⟨?_, ?_⟩
          · have r6 := w.at (a := 146) (k := x1.toNatClampNeg) rfl
            exact vpi (by omega) (by omega)
          · have w7 : WT (uI m 149 ((m.1 146 x1.toNatClampNeg).toNatClampNeg) ((m.1 149 ((m.1 146 x1.toNatClampNeg).toNatClampNeg)) + (1 : Int32))) := w.n rfl
            have f7 : Fx (RS [9]) m (uI m 149 ((m.1 146 x1.toNatClampNeg).toNatClampNeg) ((m.1 149 ((m.1 146 x1.toNatClampNeg).toNatClampNeg)) + (1 : Int32))) := f.i rfl
            exact (l_X11_countThrowers (m0 := m) 1000000) _ _ w7 f7 (by show (0 : Int) ≤ (x1).toInt; omega) (by show (x1).toInt ≤ (11 : Int); omega) (by show 0 * (x1).toInt < _; omega)
set_option maxHeartbeats 4000000 in
theorem l_X11_found {ad : Nat → Nat} {d : Nat} {m0 : Wm}  : ∀ n : Nat, (∀ (m : Wm) (x1 : Int32), WT m → Fx (RS [9, 14]) m0 m → (0 : Int) ≤ x1.toInt → x1.toInt ≤ (8 : Int) → 1000 - x1.toInt < (n : Int) → AW ad E0 μX11_found (d + 5) (fun r m' => WT m' ∧ Fx (RS [9, 14]) m0 m' ∧ ∃ v : Int32, r = some (.int v)) 2 [(0, .ref (ad 0)), (1, .int x1)] [] m) ∧ (∀ (m : Wm) (x1 x2 : Int32), WT m → Fx (RS [9, 14]) m0 m → (0 : Int) ≤ x2.toInt → x2.toInt ≤ (12 : Int) → 500 - x2.toInt < (n : Int) → AW ad E0 μX11_found (d + 5) (fun r m' => WT m' ∧ Fx (RS [9, 14]) m0 m' ∧ ∃ v : Int32, r = some (.int v)) 25 [(0, .ref (ad 0)), (1, .int x1), (2, .int x2)] [] m) ∧ (∀ (m : Wm) (x1 x2 x3 : Int32), WT m → Fx (RS [9, 14]) m0 m → (0 : Int) ≤ x2.toInt → x2.toInt ≤ (7 : Int) → (0 : Int) ≤ x3.toInt → x3.toInt ≤ (8 : Int) → 100 - x3.toInt < (n : Int) → AW ad E0 μX11_found (d + 5) (fun r m' => WT m' ∧ Fx (RS [9, 14]) m0 m' ∧ ∃ v : Int32, r = some (.int v)) 87 [(0, .ref (ad 0)), (1, .int x1), (2, .int x2), (3, .int x3)] [] m) ∧ (∀ (m : Wm) (x1 x2 : Int32) (z0 z1 : Int64), WT m → Fx (RS [9, 14]) m0 m → (0 : Int) ≤ x2.toInt → x2.toInt ≤ (7 : Int) → 0 * x2.toInt < (n : Int) → AW ad E0 μX11_found (d + 5) (fun r m' => WT m' ∧ Fx (RS [9, 14]) m0 m' ∧ ∃ v : Int32, r = some (.int v)) 139 [(0, .ref (ad 0)), (1, .int x1), (2, .int x2)] [.long z0, .long z1, .ref (ad 0)] m) := by
  intro n
  induction n with
  | zero =>
    refine ⟨?_, ?_, ?_, ?_⟩ <;> intros <;> exfalso <;> omega
  | succ n ih =>
    refine ⟨?_, ?_, ?_, ?_⟩
    · intro m x1 w f j1 j2 hn
      refine g_X11_found_2  ?_
      refine ⟨?_, ?_⟩
      · intro c1
        have k2 := y_lel (n := 8) rfl c1
        exact ih.2.1 _ _ _ w f (by show (0 : Int) ≤ (0 : Int); omega) (by show (0 : Int) ≤ (12 : Int); omega) (by show 500 - (0 : Int) < _; omega)
      · intro c3
        have k4 := y_nlel (n := 8) rfl c3
        refine ⟨?_, ?_⟩
        · exact vpi (by omega) (by omega)
        · have w5 : WT (uI m 149 x1.toNatClampNeg (0 : Int32)) := w.n rfl
          have f5 : Fx (RS [9, 14]) m0 (uI m 149 x1.toNatClampNeg (0 : Int32)) := f.i rfl
          have t6 := ti_addc (x := x1) (y := (1 : Int32)) (c := 1) rfl (by omega)
          exact ih.1 _ _ w5 f5 (by show (0 : Int) ≤ ((x1 + (1 : Int32))).toInt; omega) (by show ((x1 + (1 : Int32))).toInt ≤ (8 : Int); omega) (by show 1000 - ((x1 + (1 : Int32))).toInt < _; omega)
    · intro m x1 x2 w f j1 j2 hn
      refine g_X11_found_25  ?_
      refine ⟨?_, ?_⟩
      · intro c1
        have r2 := w.at (a := 0) (k := 15) rfl
        have k3 := z_le c1
        exact ih.2.2.1 _ _ _ _ w f (by show (0 : Int) ≤ (0 : Int); omega) (by show (0 : Int) ≤ (7 : Int); omega) (by show (0 : Int) ≤ (0 : Int); omega) (by show (0 : Int) ≤ (8 : Int); omega) (by show 100 - (0 : Int) < _; omega)
      · intro c4
        have r5 := w.at (a := 0) (k := 15) rfl
        have k6 := z_nle c4
        refine ⟨?_, ?_⟩
        · exact vpi (by omega) (by omega)
        · refine ⟨?_, ?_⟩
          · exact vpi (by omega) (by omega)
          · have r7 := w.at (a := 146) (k := x2.toNatClampNeg) rfl
            have r8 := w.at (a := 147) (k := x2.toNatClampNeg) rfl
            refine (s_X1_result w SS_21 (by show (0 : Int) ≤ ((m.1 146 x2.toNatClampNeg)).toInt; omega) (by show ((m.1 146 x2.toNatClampNeg)).toInt ≤ (7 : Int); omega) (by show (0 : Int) ≤ ((m.1 147 x2.toNatClampNeg)).toInt; omega) (by show ((m.1 147 x2.toNatClampNeg)).toInt ≤ (7 : Int); omega)).to ?_
            rintro _ m1 ⟨w_m1, g9, v2, rfl, p10, p11⟩
            have f_m1 : Fx (RS [9, 14]) m0 m1 := f.tr g9 (RS_sub rfl)
            refine ⟨v2, rfl, ?_⟩
            refine ⟨?_, ?_⟩
            · exact vpi (by omega) (by omega)
            · refine ⟨?_, ?_⟩
              · intro c12
                have k13 := z_eq c12
                have t14 := ti_addc (x := x2) (y := (1 : Int32)) (c := 1) rfl (by omega)
                exact ih.2.1 _ _ _ w_m1 f_m1 (by show (0 : Int) ≤ ((x2 + (1 : Int32))).toInt; omega) (by show ((x2 + (1 : Int32))).toInt ≤ (12 : Int); omega) (by show 500 - ((x2 + (1 : Int32))).toInt < _; omega)
              · intro c15
                have k16 := z_ne c15
                refine (s_X11_countThrowers w_m1 (by show (0 : Int) ≤ (x2).toInt; omega) (by show (x2).toInt ≤ (11 : Int); omega)).to ?_
                rintro _ m3 ⟨w_m3, g17, rfl⟩
                have f_m3 : Fx (RS [9, 14]) m0 m3 := f_m1.tr g17 (RS_sub rfl)
                refine ⟨rfl, ?_⟩
                have t18 := ti_addc (x := x2) (y := (1 : Int32)) (c := 1) rfl (by omega)
                exact ih.2.1 _ _ _ w_m3 f_m3 (by show (0 : Int) ≤ ((x2 + (1 : Int32))).toInt; omega) (by show ((x2 + (1 : Int32))).toInt ≤ (12 : Int); omega) (by show 500 - ((x2 + (1 : Int32))).toInt < _; omega)
    · intro m x1 x2 x3 w f j1 j2 j3 j4 hn
      refine g_X11_found_87  ?_
      refine ⟨?_, ?_⟩
      · intro c1
        have r2 := w.at (a := 3) (k := 3) rfl
        have k3 := z_le c1
        refine (s_J6_bitCount w).to ?_
        rintro _ m1 ⟨w_m1, g4, v2, rfl⟩
        have f_m1 : Fx (RS [9, 14]) m0 m1 := f.tr g4 (RS_sub rfl)
        refine ⟨v2, rfl, ?_⟩
        refine ⟨?_, ?_⟩
        · intro c5
          have k6 := y_ner (n := 0) rfl c5
          exact ih.2.2.2 _ _ _ _ _ w_m1 f_m1 (by show (0 : Int) ≤ (x2).toInt; omega) (by show (x2).toInt ≤ (7 : Int); omega) (by show 0 * (x2).toInt < _; omega)
        · intro c7
          have k8 := y_eqr (n := 0) rfl c7
          exact ih.2.2.2 _ _ _ _ _ w_m1 f_m1 (by show (0 : Int) ≤ (x2).toInt; omega) (by show (x2).toInt ≤ (7 : Int); omega) (by show 0 * (x2).toInt < _; omega)
      · intro c9
        have r10 := w.at (a := 3) (k := 3) rfl
        have k11 := z_nle c9
        refine ⟨?_, ?_⟩
        · exact vpi (by omega) (by omega)
        · refine ⟨?_, ?_⟩
          · exact vpi (by omega) (by omega)
          · refine ⟨?_, ?_⟩
            · intro c12
              have k13 := z_le c12
              have t14 := ti_addc (x := x3) (y := (1 : Int32)) (c := 1) rfl (by omega)
              exact ih.2.2.1 _ _ _ _ w f (by show (0 : Int) ≤ (x2).toInt; omega) (by show (x2).toInt ≤ (7 : Int); omega) (by show (0 : Int) ≤ ((x3 + (1 : Int32))).toInt; omega) (by show ((x3 + (1 : Int32))).toInt ≤ (8 : Int); omega) (by show 100 - ((x3 + (1 : Int32))).toInt < _; omega)
            · intro c15
              have k16 := z_nle c15
              have t17 := ti_addc (x := x3) (y := (1 : Int32)) (c := 1) rfl (by omega)
              exact ih.2.2.1 _ _ _ _ w f (by show (0 : Int) ≤ (x3).toInt; omega) (by show (x3).toInt ≤ (7 : Int); omega) (by show (0 : Int) ≤ ((x3 + (1 : Int32))).toInt; omega) (by show ((x3 + (1 : Int32))).toInt ≤ (8 : Int); omega) (by show 100 - ((x3 + (1 : Int32))).toInt < _; omega)
    · intro m x1 x2 z0 z1 w f j1 j2 hn
      refine g_X11_found_139  ?_
      refine ⟨?_, ?_⟩
      · exact vpi (by omega) (by omega)
      · refine (s_X11_tell__ w).to ?_
        rintro _ m1 ⟨w_m1, g1, rfl⟩
        have f_m1 : Fx (RS [9, 14]) m0 m1 := f.tr g1 (RS_sub rfl)
        refine ⟨rfl, ?_⟩
        exact ⟨w_m1, f_m1, _, rfl⟩
set_option maxHeartbeats 4000000 in
theorem s_X11_found {ad : Nat → Nat} {d : Nat} {m : Wm} (w : WT m) : Ct ad μX11_found (d + 5) [.ref (ad 0)] m (fun r m' => WT m' ∧ Fx (RS [9, 14]) m m' ∧ ∃ v : Int32, r = some (.int v)) := by
  have f : Fx (RS [9, 14]) m m := Fx.rf
  refine v_X11_found  ?_
  exact (l_X11_found (m0 := m) 1000000).1 _ _ w f (by show (0 : Int) ≤ (0 : Int); omega) (by show (0 : Int) ≤ (8 : Int); omega) (by show 1000 - (0 : Int) < _; omega)
set_option maxHeartbeats 4000000 in
theorem l_X11_prize {ad : Nat → Nat} {d : Nat} {m0 : Wm}  : ∀ n : Nat, (∀ (m : Wm) (x1 x2 x3 : Int32), WT m → Fx (RS [9]) m0 m → (0 : Int) ≤ x1.toInt → x1.toInt ≤ (7 : Int) → (0 : Int) ≤ x3.toInt → x3.toInt ≤ (8 : Int) → 8 - x3.toInt < (n : Int) → AW ad E0 μX11_prize (d + 1) (fun r m' => WT m' ∧ Fx (RS [9]) m0 m' ∧ ∃ v : Int32, r = some (.int v)) 19 [(0, .ref (ad 0)), (1, .int x1), (2, .int x2), (3, .int x3)] [] m) := by
  intro n
  induction n with
  | zero =>
    intros
    exfalso
    omega
  | succ n ih =>
    intro m x1 x2 x3 w f j1 j2 j3 j4 hn
    refine g_X11_prize_19  ?_
    refine ⟨?_, ?_⟩
    · intro c1
      have r2 := w.at (a := 3) (k := 3) rfl
      have k3 := z_le c1
      refine ⟨?_, ?_⟩
      · exact vpi (by omega) (by omega)
      · refine (s_X11_tell_ w).to ?_
        rintro _ m1 ⟨w_m1, g4, rfl⟩
        have f_m1 : Fx (RS [9]) m0 m1 := f.tr g4 (RS_sub rfl)
        refine ⟨rfl, ?_⟩
        exact ⟨w_m1, f_m1, _, rfl⟩
    · intro c5
      have r6 := w.at (a := 3) (k := 3) rfl
      have k7 := z_nle c5
      refine ⟨?_, ?_⟩
      · exact vpi (by omega) (by omega)
      · refine ⟨?_, ?_⟩
        · exact vpi (by omega) (by omega)
        · refine ⟨?_, ?_⟩
          · exact vpi (by omega) (by omega)
          · refine ⟨?_, ?_⟩
            · intro c8
              have k9 := z_le c8
              have t10 := ti_addc (x := x3) (y := (1 : Int32)) (c := 1) rfl (by omega)
              exact ih _ _ _ _ w f (by show (0 : Int) ≤ (x1).toInt; omega) (by show (x1).toInt ≤ (7 : Int); omega) (by show (0 : Int) ≤ ((x3 + (1 : Int32))).toInt; omega) (by show ((x3 + (1 : Int32))).toInt ≤ (8 : Int); omega) (by show 8 - ((x3 + (1 : Int32))).toInt < _; omega)
            · intro c11
              have k12 := z_nle c11
              have t13 := ti_addc (x := x3) (y := (1 : Int32)) (c := 1) rfl (by omega)
              exact ih _ _ _ _ w f (by show (0 : Int) ≤ (x3).toInt; omega) (by show (x3).toInt ≤ (7 : Int); omega) (by show (0 : Int) ≤ ((x3 + (1 : Int32))).toInt; omega) (by show ((x3 + (1 : Int32))).toInt ≤ (8 : Int); omega) (by show 8 - ((x3 + (1 : Int32))).toInt < _; omega)
set_option maxHeartbeats 4000000 in
theorem s_X11_prize {ad : Nat → Nat} {d : Nat} {m : Wm} (w : WT m) : Ct ad μX11_prize (d + 1) [.ref (ad 0)] m (fun r m' => WT m' ∧ Fx (RS [9]) m m' ∧ ∃ v : Int32, r = some (.int v)) := by
  have f : Fx (RS [9]) m m := Fx.rf
  refine v_X11_prize  ?_
  refine ⟨?_, ?_⟩
  · intro c1
    have r2 := w.at (a := 3) (k := 3) rfl
    have k3 := y_ner (n := 0) rfl c1
    exact (l_X11_prize (m0 := m) 1000000) _ _ _ _ w f (by show (0 : Int) ≤ (0 : Int); omega) (by show (0 : Int) ≤ (7 : Int); omega) (by show (0 : Int) ≤ (0 : Int); omega) (by show (0 : Int) ≤ (8 : Int); omega) (by show 8 - (0 : Int) < _; omega)
  · intro c4
    have r5 := w.at (a := 3) (k := 3) rfl
    have k6 := y_eqr (n := 0) rfl c4
    exact ⟨w, f, _, rfl⟩
set_option maxHeartbeats 4000000 in
theorem l_X11_playAhead {ad : Nat → Nat} {d : Nat} {m0 : Wm}  : ∀ n : Nat, (∀ (m : Wm) (x1 x2 x3 : Int32), WT m → Fx (RS [2, 5, 14]) m0 m → (0 : Int) ≤ x1.toInt → x1.toInt ≤ (50 : Int) → (0 : Int) ≤ x3.toInt → x3.toInt ≤ (50 : Int) → (50 - x3.toInt) * 100 + 60 < (n : Int) → AW ad E0 μX11_playAhead (d + 5) (fun r m' => WT m' ∧ Fx (RS [2, 5, 14]) m0 m' ∧ r = none) 18 [(0, .ref (ad 0)), (1, .int x1), (2, .int x2), (3, .int x3)] [] m) ∧ (∀ (m : Wm) (x1 x2 x3 x4 x5 : Int32), WT m → Fx (RS [2, 5, 14]) m0 m → (0 : Int) ≤ x1.toInt → x1.toInt ≤ (50 : Int) → (0 : Int) ≤ x3.toInt → x3.toInt ≤ (49 : Int) → (0 : Int) ≤ x4.toInt → x4.toInt ≤ (48 : Int) → (0 : Int) ≤ x5.toInt → x5.toInt ≤ (48 : Int) → (50 - x3.toInt) * 100 + 48 - x5.toInt < (n : Int) → AW ad E0 μX11_playAhead (d + 5) (fun r m' => WT m' ∧ Fx (RS [2, 5, 14]) m0 m' ∧ r = none) 45 [(0, .ref (ad 0)), (1, .int x1), (2, .int x2), (3, .int x3), (4, .int x4), (5, .int x5)] [] m) := by
  intro n
  induction n with
  | zero =>
    refine ⟨?_, ?_⟩ <;> intros <;> exfalso <;> omega
  | succ n ih =>
    refine ⟨?_, ?_⟩
    · intro m x1 x2 x3 w f j1 j2 j3 j4 hn
      refine g_X11_playAhead_18  ?_
      refine ⟨?_, ?_⟩
      · intro c1
        have k2 := z_le c1
        exact ⟨w, f, rfl⟩
      · intro c3
        have k4 := z_nle c3
        obtain ⟨r1, e5, q6⟩ := w.r09
        refine ⟨r1, e5, Pl_of q6, ?_⟩
        refine (s_X3_begin w q6).to ?_
        rintro _ m2 ⟨w_m2, g7, v3, rfl, p8, p9⟩
        have f_m2 : Fx (RS [2, 5, 14]) m0 m2 := f.tr g7 (RS_sub rfl)
        refine ⟨v3, rfl, ?_⟩
        obtain ⟨r4, e10, q11⟩ := w_m2.r09
        refine ⟨r4, e10, Pl_of q11, ?_⟩
        refine (s_X3_begin w_m2 q11).to ?_
        rintro _ m5 ⟨w_m5, g12, v6, rfl, p13, p14⟩
        have f_m5 : Fx (RS [2, 5, 14]) m0 m5 := f_m2.tr g12 (RS_sub rfl)
        refine ⟨v6, rfl, ?_⟩
        exact ih.2 _ _ _ _ _ _ w_m5 f_m5 (by show (0 : Int) ≤ (x1).toInt; omega) (by show (x1).toInt ≤ (50 : Int); omega) (by show (0 : Int) ≤ (x3).toInt; omega) (by show (x3).toInt ≤ (49 : Int); omega) (by show (0 : Int) ≤ (v3).toInt; omega) (by show (v3).toInt ≤ (48 : Int); omega) (by show (0 : Int) ≤ (v6).toInt; omega) (by show (v6).toInt ≤ (48 : Int); omega) (by show (50 - (x3).toInt) * 100 + 48 - (v6).toInt < _; omega)
    · intro m x1 x2 x3 x4 x5 w f j1 j2 j3 j4 j5 j6 j7 j8 hn
      refine g_X11_playAhead_45  ?_
      refine ⟨?_, ?_⟩
      · intro c1
        have k2 := z_le c1
        obtain ⟨r1, e3, q4⟩ := w.r09
        refine ⟨r1, e3, Pl_of q4, ?_⟩
        refine (s_X3_after w q4).to ?_
        rintro _ m2 ⟨w_m2, g5, v3, rfl⟩
        have f_m2 : Fx (RS [2, 5, 14]) m0 m2 := f.tr g5 (RS_sub rfl)
        refine ⟨v3, rfl, ?_⟩
        have t6 := ti_addc (x := x3) (y := (1 : Int32)) (c := 1) rfl (by omega)
        exact ih.1 _ _ _ _ w_m2 f_m2 (by show (0 : Int) ≤ (x1).toInt; omega) (by show (x1).toInt ≤ (50 : Int); omega) (by show (0 : Int) ≤ ((x3 + (1 : Int32))).toInt; omega) (by show ((x3 + (1 : Int32))).toInt ≤ (50 : Int); omega) (by show (50 - ((x3 + (1 : Int32))).toInt) * 100 + 60 < _; omega)
      · intro c7
        have k8 := z_nle c7
        obtain ⟨r4, e9, q10⟩ := w.r09
        refine ⟨r4, e9, Pl_of q10, ?_⟩
        refine ⟨?_, ?_⟩
        · exact vpi (by omega) (by omega)
        · refine ⟨r4, e9, Pl_of q10, ?_⟩
          refine ⟨?_, ?_⟩
          · exact vpi (by omega) (by omega)
          · refine ⟨r4, e9, Pl_of q10, ?_⟩
            refine ⟨?_, ?_⟩
            · exact vpi (by omega) (by omega)
            · have r11 := w.plj (j := 1) (k := x5.toNatClampNeg) q10 rfl rfl
              have r12 := w.plj (j := 2) (k := x5.toNatClampNeg) q10 rfl rfl
              refine (s_X1_result w SS_26 (by show (0 : Int) ≤ ((m.1 (r4 + 1) x5.toNatClampNeg)).toInt; omega) (by show ((m.1 (r4 + 1) x5.toNatClampNeg)).toInt ≤ (7 : Int); omega) (by show (0 : Int) ≤ ((m.1 (r4 + 2) x5.toNatClampNeg)).toInt; omega) (by show ((m.1 (r4 + 2) x5.toNatClampNeg)).toInt ≤ (7 : Int); omega)).to ?_
              rintro _ m7 ⟨w_m7, g13, v8, rfl, p14, p15⟩
              have f_m7 : Fx (RS [2, 5, 14]) m0 m7 := f.tr g13 (RS_sub rfl)
              refine ⟨v8, rfl, ?_⟩
              obtain ⟨r9, e16, q17⟩ := w_m7.r09
              refine ⟨r9, e16, Pl_of q17, ?_⟩
              refine ⟨?_, ?_⟩
              · exact vpi (by omega) (by omega)
              · refine ⟨r9, e16, Pl_of q17, ?_⟩
                refine ⟨?_, ?_⟩
                · exact vpi (by omega) (by omega)
                · have r18 := w_m7.plj (j := 1) (k := x5.toNatClampNeg) q17 rfl rfl
                  have r19 := w_m7.plj (j := 2) (k := x5.toNatClampNeg) q17 rfl rfl
                  refine (s_X1_settle w_m7 SS_26 (by show (0 : Int) ≤ ((m7.1 (r9 + 1) x5.toNatClampNeg)).toInt; omega) (by show ((m7.1 (r9 + 1) x5.toNatClampNeg)).toInt ≤ (7 : Int); omega) (by show (0 : Int) ≤ ((m7.1 (r9 + 2) x5.toNatClampNeg)).toInt; omega) (by show ((m7.1 (r9 + 2) x5.toNatClampNeg)).toInt ≤ (7 : Int); omega)).to ?_
                  rintro _ m11 ⟨w_m11, g20, rfl⟩
                  have f_m11 : Fx (RS [2, 5, 14]) m0 m11 := f_m7.tr g20 (RS_sub rfl)
                  refine ⟨rfl, ?_⟩
                  have t21 := ti_addc (x := x5) (y := (1 : Int32)) (c := 1) rfl (by omega)
                  exact ih.2 _ _ _ _ _ _ w_m11 f_m11 (by show (0 : Int) ≤ (x1).toInt; omega) (by show (x1).toInt ≤ (50 : Int); omega) (by show (0 : Int) ≤ (x3).toInt; omega) (by show (x3).toInt ≤ (49 : Int); omega) (by show (0 : Int) ≤ (x4).toInt; omega) (by show (x4).toInt ≤ (48 : Int); omega) (by show (0 : Int) ≤ ((x5 + (1 : Int32))).toInt; omega) (by show ((x5 + (1 : Int32))).toInt ≤ (48 : Int); omega) (by show (50 - (x3).toInt) * 100 + 48 - ((x5 + (1 : Int32))).toInt < _; omega)
set_option maxHeartbeats 4000000 in
theorem s_X11_playAhead {ad : Nat → Nat} {d : Nat} {m : Wm} {x1 : Int32} (w : WT m) (i1 : (0 : Int) ≤ x1.toInt) (i2 : x1.toInt ≤ (50 : Int)) : Ct ad μX11_playAhead (d + 5) [.ref (ad 0), .int x1] m (fun r m' => WT m' ∧ Fx (RS [2, 5, 14]) m m' ∧ r = none) := by
  have f : Fx (RS [2, 5, 14]) m m := Fx.rf
  refine v_X11_playAhead  ?_
  refine (s_X8_copy w SS_26 SS_21).to ?_
  rintro _ m1 ⟨w_m1, g1, rfl⟩
  have f_m1 : Fx (RS [2, 5, 14]) m m1 := f.tr g1 (RS_sub rfl)
  refine ⟨rfl, ?_⟩
  exact (l_X11_playAhead (m0 := m) 1000000).1 _ _ _ _ w_m1 f_m1 (by show (0 : Int) ≤ (x1).toInt; omega) (by show (x1).toInt ≤ (50 : Int); omega) (by show (0 : Int) ≤ (0 : Int); omega) (by show (0 : Int) ≤ (50 : Int); omega) (by show (50 - (0 : Int)) * 100 + 60 < _; omega)
set_option maxHeartbeats 4000000 in
theorem s_X11_pays {ad : Nat → Nat} {d : Nat} {m : Wm} {x1 x2 : Int32} (w : WT m) : Ct ad μX11_pays (d + 6) [.ref (ad 0), .int x1, .int x2] m (fun r m' => WT m' ∧ Fx (RS [2, 5, 9, 14, 42]) m m' ∧ ∃ v : Int32, r = some (.int v)) := by
  have f : Fx (RS [2, 5, 9, 14, 42]) m m := Fx.rf
  refine v_X11_pays  ?_
  refine (s_X1_has w).to ?_
  rintro _ m1 ⟨w_m1, g1, v2, rfl, p3, p4, p2⟩
  have f_m1 : Fx (RS [2, 5, 9, 14, 42]) m m1 := f.tr g1 (RS_sub rfl)
  have p5 : (v2.toInt = 0 ∧ ((x1).toInt < 0 ∨ ((m.1 3 3)).toInt ≤ (x1).toInt)) ∨ (v2.toInt = 1 ∧ 0 ≤ (x1).toInt ∧ (x1).toInt < ((m.1 3 3)).toInt ∧ (x1).toInt ≤ 7) := p2
  clear p2
  refine ⟨v2, rfl, ?_⟩
  refine ⟨?_, ?_⟩
  · intro c6
    have k7 := y_eqr (n := 0) rfl c6
    exact ⟨w_m1, f_m1, _, rfl⟩
  · intro c8
    have k9 := y_ner (n := 0) rfl c8
    refine ⟨?_, ?_⟩
    · intro c10
      have k11 := y_ltr (n := 0) rfl c10
      exact ⟨w_m1, f_m1, _, rfl⟩
    · intro c12
      have k13 := y_nltr (n := 0) rfl c12
      refine ⟨?_, ?_⟩
      · intro c14
        have k15 := y_ltl (n := 50) rfl c14
        exact ⟨w_m1, f_m1, _, rfl⟩
      · intro c16
        have k17 := y_nltl (n := 50) rfl c16
        obtain ⟨r3, e18, q19⟩ := w_m1.r09
        refine ⟨r3, e18, Pl_of q19, ?_⟩
        refine ⟨?_, ?_⟩
        · intro c20
          have r21 := w_m1.pl (k := 5) q19 rfl rfl
          have k22 := y_ner (n := 0) rfl c20
          refine (s_X11_playAhead w_m1 (by show (0 : Int) ≤ (x2).toInt; omega) (by show (x2).toInt ≤ (50 : Int); omega)).to ?_
          rintro _ m4 ⟨w_m4, g23, rfl⟩
          have f_m4 : Fx (RS [2, 5, 9, 14, 42]) m m4 := f_m1.tr g23 (RS_sub rfl)
          refine ⟨rfl, ?_⟩
          refine ⟨?_, ?_⟩
          · exact vpi (by omega) (by omega)
          · have w24 : WT (uI m4 3 5 ((m4.1 3 5) ^^^ ((1 : Int32) <<< (x1 &&& 31)))) := w_m4.n rfl
            have f24 : Fx (RS [2, 5, 9, 14, 42]) m (uI m4 3 5 ((m4.1 3 5) ^^^ ((1 : Int32) <<< (x1 &&& 31)))) := f_m4.i rfl
            refine (s_X11_playAhead w24 (by show (0 : Int) ≤ (x2).toInt; omega) (by show (x2).toInt ≤ (50 : Int); omega)).to ?_
            rintro _ m5 ⟨w_m5, g25, rfl⟩
            have f_m5 : Fx (RS [2, 5, 9, 14, 42]) m m5 := f24.tr g25 (RS_sub rfl)
            refine ⟨rfl, ?_⟩
            refine ⟨?_, ?_⟩
            · exact vpi (by omega) (by omega)
            · have w26 : WT (uI m5 3 5 ((m5.1 3 5) ^^^ ((1 : Int32) <<< (x1 &&& 31)))) := w_m5.n rfl
              have f26 : Fx (RS [2, 5, 9, 14, 42]) m (uI m5 3 5 ((m5.1 3 5) ^^^ ((1 : Int32) <<< (x1 &&& 31)))) := f_m5.i rfl
              refine (s_X11_tell_ w26).to ?_
              rintro _ m6 ⟨w_m6, g27, rfl⟩
              have f_m6 : Fx (RS [2, 5, 9, 14, 42]) m m6 := f26.tr g27 (RS_sub rfl)
              refine ⟨rfl, ?_⟩
              refine ⟨?_, ?_⟩
              · exact vpi (by omega) (by omega)
              · exact ⟨w_m6, f_m6, _, rfl⟩
        · intro c28
          have r29 := w_m1.pl (k := 5) q19 rfl rfl
          have k30 := y_eqr (n := 0) rfl c28
          exact ⟨w_m1, f_m1, _, rfl⟩
set_option maxHeartbeats 4000000 in
theorem l_X11_laws {ad : Nat → Nat} {d : Nat} {m0 : Wm}  : ∀ n : Nat, (∀ (m : Wm) (x1 x2 x3 x4 : Int32), WT m → Fx (RS [2, 5, 9, 14, 43]) m0 m → (0 : Int) ≤ x1.toInt → x1.toInt ≤ (50 : Int) → (0 : Int) ≤ x3.toInt → x3.toInt ≤ (3 : Int) → (0 : Int) ≤ x4.toInt → x4.toInt ≤ (4 : Int) → 4 - x4.toInt < (n : Int) → AW ad E0 μX11_laws (d + 6) (fun r m' => WT m' ∧ Fx (RS [2, 5, 9, 14, 43]) m0 m' ∧ ∃ v : Int32, r = some (.int v)) 37 [(0, .ref (ad 0)), (1, .int x1), (2, .int x2), (3, .int x3), (4, .int x4)] [] m) := by
  intro n
  induction n with
  | zero =>
    intros
    exfalso
    omega
  | succ n ih =>
    intro m x1 x2 x3 x4 w f j1 j2 j3 j4 j5 j6 hn
    refine g_X11_laws_37  ?_
    refine ⟨?_, ?_⟩
    · intro c1
      have k2 := y_lel (n := 4) rfl c1
      have w3 : WT (uI m 4 ((0 : Int32).toNatClampNeg) x2) := w.n rfl
      have f3 : Fx (RS [2, 5, 9, 14, 43]) m0 (uI m 4 ((0 : Int32).toNatClampNeg) x2) := f.i rfl
      have w4 : WT (uI (uI m 4 ((0 : Int32).toNatClampNeg) x2) 0 18 (4 : Int32)) := w3.t rfl (by show (0 : Int) ≤ (4 : Int); omega) (by show (4 : Int) ≤ 10; omega)
      have f4 : Fx (RS [2, 5, 9, 14, 43]) m0 (uI (uI m 4 ((0 : Int32).toNatClampNeg) x2) 0 18 (4 : Int32)) := f3.i rfl
      exact ⟨w4, f4, _, rfl⟩
    · intro c5
      have k6 := y_nlel (n := 4) rfl c5
      have w7 : WT (uI m 4 ((0 : Int32).toNatClampNeg) x4) := w.n rfl
      have f7 : Fx (RS [2, 5, 9, 14, 43]) m0 (uI m 4 ((0 : Int32).toNatClampNeg) x4) := f.i rfl
      refine (s_X11_playAhead w7 (by show (0 : Int) ≤ (x1).toInt; omega) (by show (x1).toInt ≤ (50 : Int); omega)).to ?_
      rintro _ m1 ⟨w_m1, g8, rfl⟩
      have f_m1 : Fx (RS [2, 5, 9, 14, 43]) m0 m1 := f7.tr g8 (RS_sub rfl)
      refine ⟨rfl, ?_⟩
      refine (s_X1_total w_m1 SS_26).to ?_
      rintro _ m2 ⟨w_m2, g9, v3, rfl⟩
      have f_m2 : Fx (RS [2, 5, 9, 14, 43]) m0 m2 := f_m1.tr g9 (RS_sub rfl)
      refine ⟨v3, rfl, ?_⟩
      refine ⟨?_, ?_⟩
      · exact vpi (by omega) (by omega)
      · refine ⟨?_, ?_⟩
        · exact vpi (by omega) (by omega)
        · refine ⟨?_, ?_⟩
          · exact vpi (by omega) (by omega)
          · refine ⟨?_, ?_⟩
            · intro c10
              have w11 : WT (uL m2 150 x4.toNatClampNeg v3.toInt64) := w_m2.l
              have f11 : Fx (RS [2, 5, 9, 14, 43]) m0 (uL m2 150 x4.toNatClampNeg v3.toInt64) := f_m2.l rfl
              have t12 := ti_addc (x := x4) (y := (1 : Int32)) (c := 1) rfl (by omega)
              exact ih _ _ _ _ _ w11 f11 (by show (0 : Int) ≤ (x1).toInt; omega) (by show (x1).toInt ≤ (50 : Int); omega) (by show (0 : Int) ≤ (x3).toInt; omega) (by show (x3).toInt ≤ (3 : Int); omega) (by show (0 : Int) ≤ ((x4 + (1 : Int32))).toInt; omega) (by show ((x4 + (1 : Int32))).toInt ≤ (4 : Int); omega) (by show 4 - ((x4 + (1 : Int32))).toInt < _; omega)
            · intro c13
              have w14 : WT (uL m2 150 x4.toNatClampNeg v3.toInt64) := w_m2.l
              have f14 : Fx (RS [2, 5, 9, 14, 43]) m0 (uL m2 150 x4.toNatClampNeg v3.toInt64) := f_m2.l rfl
              have t15 := ti_addc (x := x4) (y := (1 : Int32)) (c := 1) rfl (by omega)
              exact ih _ _ _ _ _ w14 f14 (by show (0 : Int) ≤ (x1).toInt; omega) (by show (x1).toInt ≤ (50 : Int); omega) (by show (0 : Int) ≤ (x4).toInt; omega) (by show (x4).toInt ≤ (3 : Int); omega) (by show (0 : Int) ≤ ((x4 + (1 : Int32))).toInt; omega) (by show ((x4 + (1 : Int32))).toInt ≤ (4 : Int); omega) (by show 4 - ((x4 + (1 : Int32))).toInt < _; omega)
set_option maxHeartbeats 4000000 in
theorem s_X11_laws {ad : Nat → Nat} {d : Nat} {m : Wm} {x1 : Int32} (w : WT m) : Ct ad μX11_laws (d + 6) [.ref (ad 0), .int x1] m (fun r m' => WT m' ∧ Fx (RS [2, 5, 9, 14, 43]) m m' ∧ ∃ v : Int32, r = some (.int v)) := by
  have f : Fx (RS [2, 5, 9, 14, 43]) m m := Fx.rf
  refine v_X11_laws  ?_
  refine ⟨?_, ?_⟩
  · intro c1
    have k2 := y_ltr (n := 0) rfl c1
    exact ⟨w, f, _, rfl⟩
  · intro c3
    have k4 := y_nltr (n := 0) rfl c3
    refine ⟨?_, ?_⟩
    · intro c5
      have k6 := y_ltl (n := 50) rfl c5
      exact ⟨w, f, _, rfl⟩
    · intro c7
      have k8 := y_nltl (n := 50) rfl c7
      obtain ⟨r1, e9, q10⟩ := w.r09
      refine ⟨r1, e9, Pl_of q10, ?_⟩
      refine ⟨?_, ?_⟩
      · intro c11
        have r12 := w.pl (k := 5) q10 rfl rfl
        have k13 := y_ner (n := 0) rfl c11
        exact (l_X11_laws (m0 := m) 1000000) _ _ _ _ _ w f (by show (0 : Int) ≤ (x1).toInt; omega) (by show (x1).toInt ≤ (50 : Int); omega) (by show (0 : Int) ≤ (0 : Int); omega) (by show (0 : Int) ≤ (3 : Int); omega) (by show (0 : Int) ≤ (0 : Int); omega) (by show (0 : Int) ≤ (4 : Int); omega) (by show 4 - (0 : Int) < _; omega)
      · intro c14
        have r15 := w.pl (k := 5) q10 rfl rfl
        have k16 := y_eqr (n := 0) rfl c14
        exact ⟨w, f, _, rfl⟩
set_option maxHeartbeats 4000000 in
theorem s_X11_seed {ad : Nat → Nat} {d : Nat} {m : Wm} {x1 : Int32} (w : WT m) : Ct ad μX11_seed d [.ref (ad 0), .int x1] m (fun r m' => WT m' ∧ Fx (RS [4]) m m' ∧ ∃ v : Int32, r = some (.int v)) := by
  have f : Fx (RS [4]) m m := Fx.rf
  refine v_X11_seed  ?_
  have w1 : WT (uI m 21 4 x1) := w.n rfl
  have f1 : Fx (RS [4]) m (uI m 21 4 x1) := f.i rfl
  exact ⟨w1, f1, _, rfl⟩
set_option maxHeartbeats 4000000 in
theorem s_X11_keep {ad : Nat → Nat} {d : Nat} {m : Wm} {x1 : Int32} (w : WT m) : Ct ad μX11_keep (d + 3) [.ref (ad 0), .int x1] m (fun r m' => WT m' ∧ Fx (RS [13]) m m' ∧ ∃ v : Int32, r = some (.int v) ∧ (0 : Int) ≤ v.toInt ∧ v.toInt ≤ 1 ∧ ((v.toInt = 1 ∧ 0 ≤ x1.toInt ∧ x1.toInt < 2) ∨ (v.toInt = 0 ∧ (x1.toInt < 0 ∨ 2 ≤ x1.toInt)))) := by
  have f : Fx (RS [13]) m m := Fx.rf
  refine v_X11_keep  ?_
  refine ⟨?_, ?_⟩
  · intro c1
    have k2 := y_ltr (n := 0) rfl c1
    exact ⟨w, f, _, rfl, (by show (0 : Int) ≤ (0 : Int); omega), (by show (0 : Int) ≤ (1 : Int); omega), (by show ((0 : Int) = 1 ∧ 0 ≤ x1.toInt ∧ x1.toInt < 2) ∨ ((0 : Int) = 0 ∧ (x1.toInt < 0 ∨ 2 ≤ x1.toInt)); omega)⟩
  · intro c3
    have k4 := y_nltr (n := 0) rfl c3
    refine ⟨?_, ?_⟩
    · intro c5
      have k6 := y_ltr (n := 2) rfl c5
      refine ⟨?_, ?_⟩
      · exact vpi (by omega) (by omega)
      · obtain ⟨r1, e7, q8⟩ := w.keep (x := x1) (by omega) (by omega)
        refine ⟨r1, e7, Ke_of q8, ?_⟩
        refine (s_X0_store w q8).to ?_
        rintro _ m2 ⟨w_m2, g9, rfl⟩
        have f_m2 : Fx (RS [13]) m m2 := f.tr g9 (RS_sub rfl)
        refine ⟨rfl, ?_⟩
        exact ⟨w_m2, f_m2, _, rfl, (by show (0 : Int) ≤ (1 : Int); omega), (by show (1 : Int) ≤ (1 : Int); omega), (by show ((1 : Int) = 1 ∧ 0 ≤ x1.toInt ∧ x1.toInt < 2) ∨ ((1 : Int) = 0 ∧ (x1.toInt < 0 ∨ 2 ≤ x1.toInt)); omega)⟩
    · intro c10
      have k11 := y_nltr (n := 2) rfl c10
      exact ⟨w, f, _, rfl, (by show (0 : Int) ≤ (0 : Int); omega), (by show (0 : Int) ≤ (1 : Int); omega), (by show ((0 : Int) = 1 ∧ 0 ≤ x1.toInt ∧ x1.toInt < 2) ∨ ((0 : Int) = 0 ∧ (x1.toInt < 0 ∨ 2 ≤ x1.toInt)); omega)⟩
set_option maxHeartbeats 4000000 in
theorem l_X11_again {ad : Nat → Nat} {d : Nat} {m0 : Wm}  : ∀ n : Nat, (∀ (m : Wm) (s0 : Int32), WT m → Fx (RS [4, 42, 43, 44, 53]) m0 m → 0 * s0.toInt < (n : Int) → AW ad E0 μX11_again (d + 3) (fun r m' => WT m' ∧ Fx (RS [4, 42, 43, 44, 53]) m0 m' ∧ ∃ v : Int32, r = some (.int v) ∧ (0 : Int) ≤ v.toInt ∧ v.toInt ≤ 1) 76 [(0, .ref (ad 0))] [.int s0, .ref (ad 0)] m) := by
  intro n
  induction n with
  | zero =>
    intros
    exfalso
    omega
  | succ n ih =>
    intro m s0 w f  hn
    refine g_X11_again_76  ?_
    have w1 : WT (uI m 0 11 s0) := w.n rfl
    have f1 : Fx (RS [4, 42, 43, 44, 53]) m0 (uI m 0 11 s0) := f.i rfl
    have w2 : WT (uI (uI m 0 11 s0) 31 1 (0 : Int32)) := w1.t rfl (by show (0 : Int) ≤ (0 : Int); omega) (by show (0 : Int) ≤ 20; omega)
    have f2 : Fx (RS [4, 42, 43, 44, 53]) m0 (uI (uI m 0 11 s0) 31 1 (0 : Int32)) := f1.i rfl
    exact ⟨w2, f2, _, rfl, (by show (0 : Int) ≤ (1 : Int); omega), (by show (1 : Int) ≤ (1 : Int); omega)⟩
set_option maxHeartbeats 4000000 in
theorem s_X11_again {ad : Nat → Nat} {d : Nat} {m : Wm} {x1 : Int32} (w : WT m) : Ct ad μX11_again (d + 3) [.ref (ad 0), .int x1] m (fun r m' => WT m' ∧ Fx (RS [4, 42, 43, 44, 53]) m m' ∧ ∃ v : Int32, r = some (.int v) ∧ (0 : Int) ≤ v.toInt ∧ v.toInt ≤ 1) := by
  have f : Fx (RS [4, 42, 43, 44, 53]) m m := Fx.rf
  refine v_X11_again  ?_
  refine ⟨?_, ?_⟩
  · intro c1
    have k2 := y_ltr (n := 0) rfl c1
    exact ⟨w, f, _, rfl, (by show (0 : Int) ≤ (0 : Int); omega), (by show (0 : Int) ≤ (1 : Int); omega)⟩
  · intro c3
    have k4 := y_nltr (n := 0) rfl c3
    refine ⟨?_, ?_⟩
    · intro c5
      have k6 := y_lel (n := 2) rfl c5
      exact ⟨w, f, _, rfl, (by show (0 : Int) ≤ (0 : Int); omega), (by show (0 : Int) ≤ (1 : Int); omega)⟩
    · intro c7
      have k8 := y_nlel (n := 2) rfl c7
      refine ⟨?_, ?_⟩
      · exact vpi (by omega) (by omega)
      · obtain ⟨r1, e9, q10⟩ := w.keep (x := x1) (by omega) (by omega)
        refine ⟨r1, e9, Ke_of q10, ?_⟩
        refine ⟨?_, ?_⟩
        · intro c11
          have k12 := y_ner (n := 0) rfl c11
          refine ⟨?_, ?_⟩
          · exact vpi (by omega) (by omega)
          · refine ⟨r1, e9, Ke_of q10, ?_⟩
            refine (s_X0_restore w q10).to ?_
            rintro _ m3 ⟨w_m3, g13, rfl⟩
            have f_m3 : Fx (RS [4, 42, 43, 44, 53]) m m3 := f.tr g13 (RS_sub rfl)
            refine ⟨rfl, ?_⟩
            obtain ⟨r4, e14, q15⟩ := w_m3.r09
            refine ⟨r4, e14, Pl_of q15, ?_⟩
            refine ⟨?_, ?_⟩
            · intro c16
              have r17 := w_m3.pl (k := 5) q15 rfl rfl
              have k18 := y_ler (n := 0) rfl c16
              exact (l_X11_again (m0 := m) 1000000) _ _ w_m3 f_m3 (by show 0 * (0 : Int) < _; omega)
            · intro c19
              have r20 := w_m3.pl (k := 5) q15 rfl rfl
              have k21 := y_nler (n := 0) rfl c19
              refine ⟨?_, ?_⟩
              · exact vpi (by omega) (by omega)
              · obtain ⟨r5, e22, q23⟩ := w_m3.keep (x := x1) (by omega) (by omega)
                refine ⟨r5, e22, Ke_of q23, ?_⟩
                refine ⟨r4, e14, Pl_of q15, ?_⟩
                refine ⟨?_, ?_⟩
                · first | assumption | (show ¬ (m3.1 r4 5) = (0 : Int32); exact y_nn (n := 0) rfl (by omega))
                · exact (l_X11_again (m0 := m) 1000000) _ _ w_m3 f_m3 (by show 0 * (((m3.1 r5 3) - (((m3.1 r5 3) / (m3.1 r4 5)) * (m3.1 r4 5)))).toInt < _; omega)
        · intro c24
          have k25 := y_eqr (n := 0) rfl c24
          exact ⟨w, f, _, rfl, (by show (0 : Int) ≤ (0 : Int); omega), (by show (0 : Int) ≤ (1 : Int); omega)⟩
set_option maxHeartbeats 4000000 in
theorem s_X11_count {ad : Nat → Nat} {d : Nat} {m : Wm} {x1 : Int32} (w : WT m) : Ct ad μX11_count d [.ref (ad 0), .int x1] m (fun r m' => WT m' ∧ Fx (RS []) m m' ∧ ∃ v : Int32, r = some (.int v)) := by
  have f : Fx (RS []) m m := Fx.rf
  refine v_X11_count  ?_
  refine ⟨?_, ?_, ?_, ?_, ?_, ?_, ?_, ?_, ?_, ?_⟩
  · intro c1
    have k2 := y_eqr (n := 0) rfl c1
    have r3 := w.at (a := 3) (k := 3) rfl
    exact ⟨w, f, _, rfl⟩
  · intro c4
    have k5 := y_eqr (n := 1) rfl c4
    have r6 := w.at (a := 3) (k := 4) rfl
    exact ⟨w, f, _, rfl⟩
  · intro c7
    have k8 := y_eqr (n := 2) rfl c7
    obtain ⟨r1, e9, q10⟩ := w.r09
    refine ⟨r1, e9, Pl_of q10, ?_⟩
    have r11 := w.pl (k := 5) q10 rfl rfl
    exact ⟨w, f, _, rfl⟩
  · intro c12
    have k13 := y_eqr (n := 3) rfl c12
    exact ⟨w, f, _, rfl⟩
  · intro c14
    have k15 := y_eqr (n := 4) rfl c14
    have r16 := w.at (a := 31) (k := 1) rfl
    exact ⟨w, f, _, rfl⟩
  · intro c17
    have k18 := y_eqr (n := 5) rfl c17
    have r19 := w.at (a := 0) (k := 15) rfl
    exact ⟨w, f, _, rfl⟩
  · intro c20
    have k21 := y_eqr (n := 6) rfl c20
    have r22 := w.at (a := 0) (k := 18) rfl
    exact ⟨w, f, _, rfl⟩
  · intro c23
    have k24 := y_eqr (n := 7) rfl c23
    have r25 := w.at (a := 1) (k := 1) rfl
    exact ⟨w, f, _, rfl⟩
  · intro c26
    have k27 := y_eqr (n := 8) rfl c26
    obtain ⟨r2, e28, q29⟩ := w.r09
    refine ⟨r2, e28, Pl_of q29, ?_⟩
    have r30 := w.pl (k := 6) q29 rfl rfl
    exact ⟨w, f, _, rfl⟩
  · intro c31
    have k32 := y_ner (n := 0) rfl c31
    intro c33
    have k34 := y_ner (n := 1) rfl c33
    intro c35
    have k36 := y_ner (n := 2) rfl c35
    intro c37
    have k38 := y_ner (n := 3) rfl c37
    intro c39
    have k40 := y_ner (n := 4) rfl c39
    intro c41
    have k42 := y_ner (n := 5) rfl c41
    intro c43
    have k44 := y_ner (n := 6) rfl c43
    intro c45
    have k46 := y_ner (n := 7) rfl c45
    intro c47
    have k48 := y_ner (n := 8) rfl c47
    exact ⟨w, f, _, rfl⟩
end
section
/-! THE READER OF THE MODEL: what stands at a place, what is taken, numbers, THE RULE by descent (exactly) -/
def PS (a sz tp e : Nat) (tx : Nat → Int32) (p : Nat) (w : Int32) (m : Wm) : Prop := m.2.2 187 18 = some a ∧ m.1 187 19 = nI sz ∧ m.1 187 20 = nI tp ∧ m.1 187 21 = nI p ∧ m.1 187 22 = w ∧ p ≤ e ∧ ∀ k, k < e → m.1 a k = tx k
/-- what is fixed while one text is read: e is the lesser of its size and the most that is read -/
def PA (a na sz tp e : Nat) : Prop := LAY[a]? = some (.inr (1, na)) ∧ sz ≤ 80 ∧ tp ≤ 80 ∧ e ≤ na ∧ na ≤ 80 ∧ a ≠ 187 ∧ e ≤ sz ∧ e ≤ tp ∧ (e = sz ∨ e = tp)
def hrF (tx : Nat → Int32) (e p : Nat) : Int32 := if p < e then tx p else -1
theorem PS.to {a sz tp e p q : Nat} {tx : Nat → Int32} {w : Int32} {m : Wm} (h : PS a sz tp e tx p w m) (ha : a ≠ 187) (hq : q ≤ e) : PS a sz tp e tx q w (uI m 187 21 (nI q)) := by
  obtain ⟨h1, h2, h3, h4, h5, h6, h7⟩ := h
  exact ⟨h1, h2, h3, rfl, h5, hq, fun k hk => (if_neg (fun e => ha e.1)).trans (h7 k hk)⟩
theorem PS.wr {a sz tp e p : Nat} {tx : Nat → Int32} {w w' : Int32} {m : Wm} (h : PS a sz tp e tx p w m) (ha : a ≠ 187) : PS a sz tp e tx p w' (uI m 187 22 w') := by
  obtain ⟨h1, h2, h3, h4, h5, h6, h7⟩ := h
  exact ⟨h1, h2, h3, h4, rfl, h6, fun k hk => (if_neg (fun e => ha e.1)).trans (h7 k hk)⟩
theorem m1_ne (k : Nat) (h : k < 2147483648) : (-1 : Int32) ≠ nI k := fun q => by
  have h2 := congrArg Int32.toInt q
  rw [nI_toInt h] at h2
  have h3 : (-1 : Int32).toInt = -1 := rfl
  omega
/-- another sign that can be asked for -/
def passF (tx : Nat → Int32) (e : Nat) (c : Int32) (s : Nat × Int32) : Bool := decide (s.2 = -1 ∧ hrF tx e s.1 = c)
def fltF (x : Int32) (s : Nat × Int32) : Nat × Int32 := if s.2 = -1 then (s.1, x) else s
def needF (tx : Nat → Int32) (e : Nat) (c : Int32) (s : Nat × Int32) : Nat × Int32 := if passF tx e c s = true then (s.1 + 1, s.2) else fltF (nI s.1) s
theorem pass_lt {tx : Nat → Int32} {e : Nat} {c : Int32} {s : Nat × Int32} (h : passF tx e c s = true) (hc : c ≠ -1) : s.1 < e := by
  have h1 := (of_decide_eq_true h).2
  unfold hrF at h1
  by_cases hp : s.1 < e
  · exact hp
  · rw [if_neg hp] at h1
    exact absurd h1.symm hc
section PAR
variable {ad : Nat → Nat} {d : Nat} {m : Wm} {a na sz tp e : Nat} {tx : Nat → Int32} {p : Nat} {w : Int32}
theorem here_ok (A : PA a na sz tp e) (h : PS a sz tp e tx p w m) : Ct ad μX12_here d [.ref (ad 187)] m (fun r m' => m' = m ∧ r = some (.int (hrF tx e p))) := by
  obtain ⟨h1, h2, h3, h4, h5, h6, h7⟩ := h
  obtain ⟨a1, a2, a3, a4, a5, a6, a7, a8, a9⟩ := A
  refine v_X12_here ?_
  rw [h2, h3, h4]
  have le1 := nI_leI (a := sz) (b := p) (by omega) (by omega)
  have le2 := nI_leI (a := tp) (b := p) (by omega) (by omega)
  refine ⟨fun c => ⟨rfl, ?_⟩, fun c => ⟨fun c' => ⟨rfl, ?_⟩, fun c' => ⟨a, na, h1, a1, nat_in ?_ (by omega), rfl, ?_⟩⟩⟩
  · have := le1.mp c
    rw [hrF, if_neg (by omega)]
  · have := le2.mp c'
    rw [hrF, if_neg (by omega)]
  · have e1 := (not_congr le1).mp c
    have e2 := (not_congr le2).mp c'
    omega
  · have e1 := (not_congr le1).mp c
    have e2 := (not_congr le2).mp c'
    rw [nI_clamp (by omega), hrF, if_pos (by omega), h7 p (by omega)]
theorem fine_ok (h : PS a sz tp e tx p w m) : Ct ad μX12_fine d [.ref (ad 187)] m (fun r m' => m' = m ∧ r = some (.int (if w = -1 then 1 else 0))) := by
  obtain ⟨h1, h2, h3, h4, h5, h6, h7⟩ := h
  refine v_X12_fine ?_
  rw [h5]
  exact ⟨fun c => ⟨rfl, by rw [if_neg c]⟩, fun c => ⟨rfl, by rw [if_pos c]⟩⟩
theorem fault_ok (A : PA a na sz tp e) (h : PS a sz tp e tx p w m) {x : Int32} : Ct ad μX12_fault (d + 1) [.ref (ad 187), .int x] m (fun r m' => r = none ∧ PS a sz tp e tx p (fltF x (p, w)).2 m' ∧ Fx (RS [22]) m m') := by
  refine v_X12_fault ((fine_ok h).to ?_)
  rintro _ _ ⟨rfl, rfl⟩
  by_cases hw : w = -1
  · refine ⟨1, by rw [if_pos hw], fun c => absurd c (by decide), fun _ => ⟨rfl, ?_, Fx.rf.i rfl⟩⟩
    rw [fltF, if_pos hw]
    exact h.wr A.2.2.2.2.2.1
  · refine ⟨0, by rw [if_neg hw], fun _ => ⟨rfl, ?_, Fx.rf⟩, fun c => absurd rfl c⟩
    rw [fltF, if_neg hw]
    exact h
theorem at_up (A : PA a na sz tp e) (h : PS a sz tp e tx p w m) (hp : p < e) : PS a sz tp e tx (p + 1) w (uI m 187 21 ((m.1 187 21) + 1)) := by
  have h4 := h.2.2.2.1
  have h1 := h.to A.2.2.2.2.2.1 (q := p + 1) (by omega)
  rw [h4, nI_1]
  exact h1
theorem passes_ok (A : PA a na sz tp e) (h : PS a sz tp e tx p w m) {c : Int32} (hc : c ≠ -1) : Ct ad μX12_passes (d + 1) [.ref (ad 187), .int c] m (fun r m' => r = some (.int (if passF tx e c (p, w) = true then 1 else 0)) ∧ PS a sz tp e tx (if passF tx e c (p, w) = true then p + 1 else p) w m' ∧ Fx (RS [22]) m m') := by
  refine v_X12_passes ((fine_ok h).to ?_)
  rintro _ _ ⟨rfl, rfl⟩
  by_cases hw : w = -1
  · refine ⟨1, by rw [if_pos hw], fun c => absurd c (by decide), fun _ => (here_ok A h).to ?_⟩
    rintro _ _ ⟨rfl, rfl⟩
    refine ⟨_, rfl, fun hh => ?_, fun hh => ?_⟩
    · have e1 : passF tx e c (p, w) = true := decide_eq_true ⟨hw, hh⟩
      rw [if_pos e1, if_pos e1]
      exact ⟨rfl, at_up A h (pass_lt e1 hc), Fx.rf.i rfl⟩
    · have e1 : ¬ passF tx e c (p, w) = true := fun q => hh (of_decide_eq_true q).2
      rw [if_neg e1, if_neg e1]
      exact ⟨rfl, h, Fx.rf⟩
  · have e1 : ¬ passF tx e c (p, w) = true := fun q => hw (of_decide_eq_true q).1
    rw [if_neg e1, if_neg e1]
    exact ⟨0, by rw [if_neg hw], fun _ => ⟨rfl, h, Fx.rf⟩, fun c => absurd rfl c⟩
theorem need_ok (A : PA a na sz tp e) (h : PS a sz tp e tx p w m) {c : Int32} (hc : c ≠ -1) : Ct ad μX12_need (d + 2) [.ref (ad 187), .int c] m (fun r m' => r = none ∧ PS a sz tp e tx (needF tx e c (p, w)).1 (needF tx e c (p, w)).2 m' ∧ Fx (RS [22]) m m') := by
  refine v_X12_need ((passes_ok A h hc).to ?_)
  rintro _ m1 ⟨rfl, h1, f1⟩
  by_cases e1 : passF tx e c (p, w) = true
  · rw [if_pos e1] at h1
    refine ⟨1, by rw [if_pos e1], fun _ => ⟨rfl, ?_, f1⟩, fun c => absurd c (by decide)⟩
    rw [needF, if_pos e1]
    exact h1
  · rw [if_neg e1] at h1
    refine ⟨0, by rw [if_neg e1], fun c => absurd rfl c, fun _ => ?_⟩
    rw [h1.2.2.2.1]
    refine (fault_ok A h1).to ?_
    rintro _ m2 ⟨rfl, h2, f2⟩
    refine ⟨rfl, rfl, ?_, f1.tr f2 (RS_sub rfl)⟩
    rw [needF, if_neg e1]
    have e2 : (fltF (nI p) (p, w)).1 = p := by unfold fltF; by_cases hw : w = -1 <;> simp [hw]
    rw [e2]
    exact h2
/-- a number of at most n digits -/
def numF (tx : Nat → Int32) (e : Nat) : Nat → Int32 → Nat → Int32 × Nat
  | 0, v, p => (v, p)
  | n + 1, v, p => if 48 ≤ hrF tx e p ∧ hrF tx e p ≤ 57 then numF tx e n (10 * v + hrF tx e p - 48) (p + 1) else (v, p)
theorem dig_lt {p : Nat} (h : (48 : Int32) ≤ hrF tx e p) : p < e := by
  unfold hrF at h
  by_cases hp : p < e
  · exact hp
  · rw [if_neg hp] at h
    exact absurd h (by decide)
theorem num_le {n : Nat} : ∀ {v : Int32} {p : Nat}, p ≤ e → p ≤ (numF tx e n v p).2 ∧ (numF tx e n v p).2 ≤ e := by
  induction n with
  | zero => intro v p hp; exact ⟨Nat.le_refl _, hp⟩
  | succ n ih =>
    intro v p hp
    unfold numF
    by_cases hc : 48 ≤ hrF tx e p ∧ hrF tx e p ≤ 57
    · rw [if_pos hc]
      have h1 := dig_lt hc.1
      have h2 := ih (v := 10 * v + hrF tx e p - 48) (p := p + 1) (by omega)
      exact ⟨by omega, h2.2⟩
    · rw [if_neg hc]
      exact ⟨Nat.le_refl _, hp⟩
theorem in_c (x : Int32) (lo hi : Int32) {y2 y4 : Int64} (h2 : y2 = lo.toInt64) (h4 : y4 = hi.toInt64) : Ct ad μX12_in d [.long x.toInt64, .long y2, .long y4] m (fun r m' => m' = m ∧ r = some (.int (if lo ≤ x ∧ x ≤ hi then 1 else 0))) := in_i h2 h4
theorem number_ok (A : PA a na sz tp e) {n : Nat} (hn : n < 100) : ∀ (k : Nat) (p : Nat) (v : Int32) (m : Wm), PS a sz tp e tx p w m → k ≤ n → AW ad E0 μX12_number (d + 1) (fun r m' => r = some (.int (numF tx e k v p).1) ∧ PS a sz tp e tx (numF tx e k v p).2 w m' ∧ Fx (RS [22]) m m') 4 [(0, .ref (ad 187)), (1, .int (nI n)), (2, .int v), (3, .int (nI (n - k)))] [] m := by
  intro k
  induction k with
  | zero =>
    intro p v m h hk
    refine g_X12_number_4 ⟨fun _ => ⟨rfl, h, Fx.rf⟩, fun c => absurd (nI_le (a := n) (b := n - 0) (by omega) (by omega)) c⟩
  | succ k ih =>
    intro p v m h hk
    refine g_X12_number_4 ⟨fun c => absurd ((nI_leI (by omega) (by omega)).mp c) (by omega), fun _ => (here_ok A h).to ?_⟩
    rintro _ _ ⟨rfl, rfl⟩
    refine ⟨_, rfl, (in_c (hrF tx e p) 48 57 rfl rfl).to ?_⟩
    rintro _ _ ⟨rfl, rfl⟩
    by_cases hc : 48 ≤ hrF tx e p ∧ hrF tx e p ≤ 57
    · refine ⟨1, by rw [if_pos hc], fun c => absurd c (by decide), fun _ => (here_ok A h).to ?_⟩
      rintro _ _ ⟨rfl, rfl⟩
      refine ⟨_, rfl, ?_⟩
      have h1 := at_up A h (dig_lt hc.1)
      have h2 := ih (p + 1) (10 * v + hrF tx e p - 48) _ h1 (by omega)
      rw [nI_1, show n - (k + 1) + 1 = n - k by omega]
      refine AW.mono h2 ?_
      rintro r m' ⟨e1, e2, e3⟩
      rw [numF, if_pos hc]
      exact ⟨e1, e2, (Fx.i (S := RS [22]) Fx.rf rfl).tr e3 (RS_sub rfl)⟩
    · refine ⟨0, by rw [if_neg hc], fun _ => ?_, fun c => absurd rfl c⟩
      rw [numF, if_neg hc]
      exact ⟨rfl, h, Fx.rf⟩
theorem num3_ok (A : PA a na sz tp e) (h : PS a sz tp e tx p w m) : Ct ad μX12_number (d + 1) [.ref (ad 187), .int 3] m (fun r m' => r = some (.int (numF tx e 3 0 p).1) ∧ PS a sz tp e tx (numF tx e 3 0 p).2 w m' ∧ Fx (RS [22]) m m') :=
  v_X12_number (number_ok A (n := 3) (by decide) 3 p 0 m h (Nat.le_refl _))
/-- a digit from lo to hi -/
def digF (tx : Nat → Int32) (e : Nat) (lo hi : Int32) (s : Nat × Int32) : Int32 × (Nat × Int32) :=
  if s.2 = -1 then (if 48 + lo ≤ hrF tx e s.1 ∧ hrF tx e s.1 ≤ 48 + hi then (hrF tx e s.1 - 48, (s.1 + 1, s.2)) else (0, fltF (nI s.1) s)) else (0, s)
theorem digit_ok (A : PA a na sz tp e) (h : PS a sz tp e tx p w m) {lo hi : Int32} (hl : ¬ 48 + lo ≤ -1) : Ct ad μX12_digit (d + 2) [.ref (ad 187), .int lo, .int hi] m (fun r m' => r = some (.int (digF tx e lo hi (p, w)).1) ∧ PS a sz tp e tx (digF tx e lo hi (p, w)).2.1 (digF tx e lo hi (p, w)).2.2 m' ∧ Fx (RS [22]) m m') := by
  refine v_X12_digit ((fine_ok h).to ?_)
  rintro _ m' ⟨eq, rfl⟩
  obtain rfl := eq.symm
  by_cases hw : w = -1
  · refine ⟨1, by rw [if_pos hw], fun _ => (here_ok A h).to ?_, fun c => absurd c (by decide)⟩
    rintro _ m' ⟨eq, rfl⟩
    obtain rfl := eq.symm
    refine ⟨_, rfl, (in_c (hrF tx e p) (48 + lo) (48 + hi) rfl rfl).to ?_⟩
    rintro _ m' ⟨eq, rfl⟩
    obtain rfl := eq.symm
    by_cases hc : 48 + lo ≤ hrF tx e p ∧ hrF tx e p ≤ 48 + hi
    · have hp : p < e := by
        have h1 := hc.1
        unfold hrF at h1
        by_cases hp : p < e
        · exact hp
        · rw [if_neg hp] at h1
          exact absurd h1 hl
      have h1 := at_up A h hp
      have h4 := h.2.2.2.1
      have e1 : digF tx e lo hi (p, w) = (hrF tx e p - 48, (p + 1, w)) := by rw [digF, if_pos hw, if_pos hc]
      rw [e1]
      have e2 : nI p + 1 - 1 = nI p := Int32.add_sub_cancel _ _
      have hx : ((uI m 187 21 ((m.1 187 21) + 1)).1 187 21) - 1 = nI p := by
        show (m.1 187 21 + 1) - 1 = nI p
        rw [h4, e2]
      refine ⟨1, by rw [if_pos hc], fun _ => ⟨a, na, h1.1, A.1, ?_, ?_, h1, Fx.rf.i rfl⟩, fun c => absurd c (by decide)⟩
      · rw [hx]
        exact nat_in (by have := A.2.2.2.1; omega) (by have := A.2.2.2.2.1; omega)
      · rw [hx, nI_clamp (by have := A.2.2.2.1; have := A.2.2.2.2.1; omega), h1.2.2.2.2.2.2 p hp, hrF, if_pos hp]
    · refine ⟨0, by rw [if_neg hc], fun c => absurd rfl c, fun _ => ?_⟩
      rw [h.2.2.2.1]
      refine (fault_ok A h).to ?_
      rintro _ m2 ⟨rfl, h2, f2⟩
      have e1 : digF tx e lo hi (p, w) = (0, fltF (nI p) (p, w)) := by rw [digF, if_pos hw, if_neg hc]
      rw [e1]
      have e2 : (fltF (nI p) (p, w)).1 = p := by unfold fltF; by_cases hw : w = -1 <;> simp [hw]
      refine ⟨rfl, rfl, ?_, f2⟩
      show PS a sz tp e tx (fltF (nI p) (p, w)).1 (fltF (nI p) (p, w)).2 m2
      rw [e2]
      exact h2
  · refine ⟨0, by rw [if_neg hw], fun c => absurd rfl c, fun _ => ?_⟩
    rw [digF, if_neg hw]
    exact ⟨rfl, h, Fx.rf⟩
end PAR
end
section
/-! THE RULE OF THE MODEL BY DESCENT, EXACTLY -/
def smF (f : Nat → Int32) (i : Nat) : Nat → Int32
  | 0 => 0
  | n + 1 => smF f i n + f (i + n)
def mxF (f : Nat → Int32) (i : Nat) : Nat → Int32
  | 0 => 0
  | n + 1 => if mxF f i n < f (i + n) then f (i + n) else mxF f i n
def mnF (f : Nat → Int32) (i : Nat) : Nat → Int32
  | 0 => 7
  | n + 1 => if f (i + n) < mnF f i n then f (i + n) else mnF f i n
/-- what a letter stands for: skills f, points g, raised h, arts ar, side s -/
def ltF (f g h : Nat → Int32) (ar s : Nat) (c : Int32) : Int32 :=
  if c = 105 then nI s else if c = 108 then mnF f (4 * s) ar else if c = 109 then mxF f (4 * s) ar else if c = 112 then g s else if c = 114 then h s else if c = 115 then smF f (4 * s) ar
  else if 0 ≤ c - 97 ∧ c - 97 ≤ nI ar - 1 then f (4 * s + (c - 97).toNatClampNeg) else 0
abbrev isLt (c : Int32) : Prop := (97 ≤ c ∧ c ≤ 100) ∨ c = 115 ∨ c = 109 ∨ c = 108 ∨ c = 105 ∨ c = 112 ∨ c = 114
section LET
variable {ad : Nat → Nat} {d : Nat} {m : Wm} {s ar : Nat}
theorem sumOf_ok (ha : m.1 187 0 = nI ar) (har : ar ≤ 4) (hs : s < 8) : Ct ad μX12_sumOf d [.ref (ad 187), .int (nI s)] m (fun r m' => m' = m ∧ r = some (.int (smF (m.1 188) (4 * s) ar))) := by
  refine v_X12_sumOf ?_
  refine down (N := ar) (P := fun k => AW ad E0 μX12_sumOf d (fun r m' => m' = m ∧ r = some (.int (smF (m.1 188) (4 * s) ar))) 4 [(0, .ref (ad 187)), (1, .int (nI s)), (2, .int (smF (m.1 188) (4 * s) k)), (3, .int (nI k))] [] m) ?_ ?_ (Nat.zero_le _)
  · exact g_X12_sumOf_4 ⟨fun _ => ⟨rfl, rfl⟩, fun h => absurd (by rw [ha]; exact nI_le (Nat.le_refl _) (by omega)) h⟩
  · intro k hk ih
    refine g_X12_sumOf_4 ⟨fun h => absurd ((nI_leI (a := ar) (b := k) (by omega) (by omega)).mp (by rw [ha] at h; exact h)) (by omega), fun _ => ?_⟩
    rw [l_mul 4 4 rfl, nI_add, nI_1, nI_clamp (by omega)]
    exact ⟨nat_in (by omega) (by decide), ih⟩
theorem isArt_c {x : Int32} (ha : m.1 187 0 = nI ar) : Ct ad μX12_isArt (d + 1) [.ref (ad 187), .int x] m (fun r m' => m' = m ∧ r = some (.int (if 0 ≤ x ∧ x ≤ nI ar - 1 then 1 else 0))) := by
  have h := isArt_ok (ad := ad) (d := d) (m := m) (x := x)
  rw [ha] at h
  exact h
theorem letter_ok {c : Int32} (ha : m.1 187 0 = nI ar) (har : ar ≤ 4) (hs : s < 8) (h28 : m.1 187 28 = nI s) : Ct ad μX12_letter (d + 2) [.ref (ad 187), .int c] m (fun r m' => m' = m ∧ r = some (.int (ltF (m.1 188) (m.1 190) (m.1 191) ar s c))) := by
  refine v_X12_letter ?_
  rw [h28]
  refine down (N := ar) (P := fun k => AW ad E0 μX12_letter (d + 2) (fun r m' => m' = m ∧ r = some (.int (ltF (m.1 188) (m.1 190) (m.1 191) ar s c))) 14 [(0, .ref (ad 187)), (1, .int c), (2, .int (nI s)), (3, .int (mxF (m.1 188) (4 * s) k)), (4, .int (mnF (m.1 188) (4 * s) k)), (5, .int (nI k))] [] m) ?_ ?_ (Nat.zero_le _)
  · refine g_X12_letter_14 ⟨fun _ => ⟨?_, ?_, ?_, ?_, ?_, ?_, ?_⟩, fun h => absurd (by rw [ha]; exact nI_le (Nat.le_refl _) (by omega)) h⟩
    · rintro rfl
      exact ⟨rfl, rfl⟩
    · rintro rfl
      exact ⟨rfl, rfl⟩
    · rintro rfl
      exact ⟨rfl, rfl⟩
    · rintro rfl
      refine ⟨nat_in hs (by decide), rfl, ?_⟩
      rw [nI_clamp (by omega)]
      rfl
    · rintro rfl
      refine ⟨nat_in hs (by decide), rfl, ?_⟩
      rw [nI_clamp (by omega)]
      rfl
    · rintro rfl
      refine (sumOf_ok ha har hs).to ?_
      rintro _ m' ⟨eq, rfl⟩
      obtain rfl := eq.symm
      exact ⟨_, rfl, rfl, rfl⟩
    · intro h1 h2 h3 h4 h5 h6
      have e0 : ltF (m.1 188) (m.1 190) (m.1 191) ar s c = if 0 ≤ c - 97 ∧ c - 97 ≤ nI ar - 1 then m.1 188 (4 * s + (c - 97).toNatClampNeg) else 0 := by
        unfold ltF
        rw [if_neg h1, if_neg h2, if_neg h3, if_neg h4, if_neg h5, if_neg h6]
      rw [e0]
      refine (isArt_c ha).to ?_
      rintro _ m' ⟨eq, rfl⟩
      obtain rfl := eq.symm
      by_cases hc : 0 ≤ c - 97 ∧ c - 97 ≤ nI ar - 1
      · refine ⟨1, by rw [if_pos hc], fun q => absurd q (by decide), fun _ => ?_⟩
        have q1 := z_le hc.1
        have q2 := z_le hc.2
        have z0 : (0 : Int32).toInt = 0 := rfl
        have z1 : (1 : Int32).toInt = 1 := rfl
        have q3 : (nI ar).toInt = ar := nI_toInt (by omega)
        have q4 := ti_sub (x := nI ar) (y := 1) (by omega)
        obtain ⟨j, hj, ej⟩ := zn_of (x := c - 97) (by omega)
        have q5 : (c - 97).toInt = j := by rw [ej, nI_toInt hj]
        have e1 : 4 * nI s + c - 97 = nI (4 * s + j) := by
          rw [Int32.sub_eq_add_neg, Int32.add_assoc, ← Int32.sub_eq_add_neg, ej, l_mul 4 4 rfl, nI_add]
        rw [if_pos hc, e1, ej, nI_clamp (by omega), nI_clamp hj]
        exact ⟨nat_in (by omega) (by decide), rfl, rfl⟩
      · refine ⟨0, by rw [if_neg hc], fun _ => ⟨rfl, by rw [if_neg hc]⟩, fun q => absurd rfl q⟩
  · intro k hk ih
    refine g_X12_letter_14 ⟨fun h => absurd ((nI_leI (a := ar) (b := k) (by omega) (by omega)).mp (by rw [ha] at h; exact h)) (by omega), fun _ => ?_⟩
    rw [l_mul 4 4 rfl, nI_add, nI_1, nI_clamp (by omega)]
    exact ⟨nat_in (by omega) (by decide), nat_in (by omega) (by decide), ih⟩
end LET
abbrev Sp : Type := Nat × Int32
def loopF (tx : Nat → Int32) (e : Nat) (c1 c2 : Int32) (op : Bool → Int32 → Int32 → Int32) (g : Sp → Int32 × Sp) : Nat → Int32 → Sp → Int32 × Sp
  | 0, acc, s => (acc, s)
  | k + 1, acc, s => if s.2 = -1 ∧ (hrF tx e s.1 = c1 ∨ hrF tx e s.1 = c2) then loopF tx e c1 c2 op g k (op (decide (hrF tx e s.1 = c1)) acc (g (s.1 + 1, s.2)).1) (g (s.1 + 1, s.2)).2 else (acc, s)
def opA (b : Bool) (x y : Int32) : Int32 := if b = true then x + y else x - y
def opM (b : Bool) (x y : Int32) : Int32 := if b = true then x * y else if y = 0 then 0 else x / y
def thgF (tx : Nat → Int32) (e : Nat) (lt : Int32 → Int32) (gt gh : Sp → Int32 × Sp) (dp : Nat) (s : Sp) : Int32 × Sp :=
  if passF tx e 45 s = true then (-(gt (s.1 + 1, s.2)).1, (gt (s.1 + 1, s.2)).2)
  else if ¬ s.2 = -1 then (0, s)
  else if hrF tx e s.1 = 40 ∧ dp < 4 then ((gh (s.1 + 1, s.2)).1, needF tx e 41 (gh (s.1 + 1, s.2)).2)
  else if 48 ≤ hrF tx e s.1 ∧ hrF tx e s.1 ≤ 57 then ((numF tx e 3 0 s.1).1, ((numF tx e 3 0 s.1).2, s.2))
  else if isLt (hrF tx e s.1) then (lt (hrF tx e s.1), (s.1 + 1, s.2))
  else (0, fltF (nI s.1) s)
def cmpF (tx : Nat → Int32) (e : Nat) (gs : Sp → Int32 × Sp) (a : Int32 × Sp) : Int32 × Sp :=
  if passF tx e 60 a.2 = true then ((if a.1 < (gs (a.2.1 + 1, a.2.2)).1 then 1 else 0), (gs (a.2.1 + 1, a.2.2)).2)
  else if passF tx e 62 a.2 = true then ((if (gs (a.2.1 + 1, a.2.2)).1 < a.1 then 1 else 0), (gs (a.2.1 + 1, a.2.2)).2)
  else if passF tx e 61 a.2 = true then ((if a.1 = (gs (a.2.1 + 1, a.2.2)).1 then 1 else 0), (gs (a.2.1 + 1, a.2.2)).2)
  else a
/-- kind 0: a thing, 1: a product, 2: a sum, 3: what is compared; n: how deep the walk may still go -/
def prF (tx : Nat → Int32) (e : Nat) (lt : Int32 → Int32) : Nat → Nat → Nat → Sp → Int32 × Sp
  | 0, _, _, s => (0, s)
  | n + 1, 0, dp, s => thgF tx e lt (prF tx e lt n 0 dp) (prF tx e lt n 3 (dp + 1)) dp s
  | n + 1, 1, dp, s => loopF tx e 42 47 opM (prF tx e lt n 0 dp) 81 (prF tx e lt n 0 dp s).1 (prF tx e lt n 0 dp s).2
  | n + 1, 2, dp, s => loopF tx e 43 45 opA (prF tx e lt n 1 dp) 81 (prF tx e lt n 1 dp s).1 (prF tx e lt n 1 dp s).2
  | n + 1, _ + 3, dp, s => cmpF tx e (prF tx e lt n 2 dp) (prF tx e lt n 2 dp s)
def EN (ad : Nat → Nat) (g : Int32 → Int32) (m : Wm) : Prop := (m.1 187 28 = -1 ∧ ∀ c, g c = 0) ∨ (m.1 187 28 ≠ -1 ∧ ∀ m1, Fx (RS [22]) m m1 → ∀ c d, Ct ad μX12_letter (d + 2) [.ref (ad 187), .int c] m1 (fun r m' => m' = m1 ∧ r = some (.int (g c))))
theorem EN.fx {ad : Nat → Nat} {g : Int32 → Int32} {m m' : Wm} (h : EN ad g m) (f : Fx (RS [22]) m m') : EN ad g m' := by
  have e : m'.1 187 28 = m.1 187 28 := f.at (by decide)
  rcases h with h | ⟨h1, h2⟩
  · exact Or.inl ⟨e.trans h.1, h.2⟩
  · exact Or.inr ⟨fun q => h1 (e.symm.trans q), fun m1 f1 => h2 m1 (f.tr f1 (RS_sub rfl))⟩
section DES
variable {ad : Nat → Nat} {d : Nat} {a na sz tp e : Nat} {tx : Nat → Int32} {g : Int32 → Int32}
abbrev PO (a sz tp e : Nat) (tx : Nat → Int32) (p : Nat) (m : Wm) (X : Int32 × Sp) : Option Value → Wm → Prop := fun r m' => r = some (.int X.1) ∧ PS a sz tp e tx X.2.1 X.2.2 m' ∧ p ≤ X.2.1 ∧ Fx (RS [22]) m m'
theorem flt_1 {x : Int32} {s : Sp} : (fltF x s).1 = s.1 := by unfold fltF; by_cases hw : s.2 = -1 <;> simp [hw]
theorem need_le {c : Int32} {s : Sp} : s.1 ≤ (needF tx e c s).1 := by
  unfold needF
  by_cases h : passF tx e c s = true
  · rw [if_pos h]; exact Nat.le_succ _
  · rw [if_neg h, flt_1]; exact Nat.le_refl _
/-- behind a letter -/
theorem a147 {p q : Nat} {w c : Int32} {m m0 : Wm} (A : PA a na sz tp e) (h : PS a sz tp e tx p w m) (E : EN ad g m) (hp : p < e) (hq : q ≤ p) (f : Fx (RS [22]) m0 m) : AW ad E0 μX12_thing (d + 3) (PO a sz tp e tx q m0 (g c, (p + 1, w))) 147 [(0, .ref (ad 187)), (2, .int c)] [] m := by
  have h1 := at_up A h hp
  have f1 : Fx (RS [22]) m (uI m 187 21 ((m.1 187 21) + 1)) := Fx.rf.i rfl
  have f2 := f.tr f1 (RS_sub rfl)
  refine g_X12_thing_147 ⟨fun h28 => ?_, fun h28 => ?_⟩
  · rcases E with E | ⟨-, E⟩
    · exact absurd E.1 h28
    · refine (E _ f1 c d).to ?_
      rintro _ m' ⟨eq, rfl⟩
      obtain rfl := eq.symm
      exact ⟨_, rfl, rfl, h1, by show q ≤ p + 1; omega, f2⟩
  · rcases E with E | ⟨E, -⟩
    · refine ⟨?_, h1, by show q ≤ p + 1; omega, f2⟩
      show _ = some (Value.int (g c))
      rw [E.2 c]
    · exact absurd h28 E
theorem a67 {p q : Nat} {w : Int32} {m m0 : Wm} {X : Int32 × Sp} (A : PA a na sz tp e) (h : PS a sz tp e tx p w m) (E : EN ad g m) (hq : q ≤ p) (f : Fx (RS [22]) m0 m)
    (hX : X = if 48 ≤ hrF tx e p ∧ hrF tx e p ≤ 57 then ((numF tx e 3 0 p).1, ((numF tx e 3 0 p).2, w)) else if isLt (hrF tx e p) then (g (hrF tx e p), (p + 1, w)) else (0, fltF (nI p) (p, w))) :
    AW ad E0 μX12_thing (d + 3) (PO a sz tp e tx q m0 X) 67 [(0, .ref (ad 187)), (2, .int (hrF tx e p))] [] m := by
  have hpe : p ≤ e := h.2.2.2.2.2.1
  refine g_X12_thing_67 ((in_c (hrF tx e p) 48 57 rfl rfl).to ?_)
  rintro _ m' ⟨eq, rfl⟩
  obtain rfl := eq.symm
  by_cases hd : 48 ≤ hrF tx e p ∧ hrF tx e p ≤ 57
  · rw [if_pos hd] at hX
    refine ⟨1, by rw [if_pos hd], fun c => absurd c (by decide), fun _ => (num3_ok A h).to ?_⟩
    rintro _ m1 ⟨rfl, h1, f1⟩
    subst hX
    exact ⟨_, rfl, rfl, h1, by have := (num_le (tx := tx) (n := 3) (v := 0) hpe).1; show q ≤ (numF tx e 3 0 p).2; omega, f.tr f1 (RS_sub rfl)⟩
  · rw [if_neg hd] at hX
    refine ⟨0, by rw [if_neg hd], fun _ => (in_c (hrF tx e p) 97 100 rfl rfl).to ?_, fun c => absurd rfl c⟩
    rintro _ m' ⟨eq, rfl⟩
    obtain rfl := eq.symm
    have lt_of : isLt (hrF tx e p) → p < e := fun hl => by
      unfold hrF at hl
      by_cases hp : p < e
      · exact hp
      · rw [if_neg hp] at hl
        exact absurd hl (by decide)
    have yes : isLt (hrF tx e p) → AW ad E0 μX12_thing (d + 3) (PO a sz tp e tx q m0 X) 147 [(0, .ref (ad 187)), (2, .int (hrF tx e p))] [] m := fun hl => by
      rw [if_pos hl] at hX
      subst hX
      exact a147 A h E (lt_of hl) hq f
    by_cases h1 : 97 ≤ hrF tx e p ∧ hrF tx e p ≤ 100
    · exact ⟨1, by rw [if_pos h1], fun _ => yes (Or.inl h1), fun c => absurd c (by decide)⟩
    · refine ⟨0, by rw [if_neg h1], fun c => absurd rfl c, fun _ => ⟨fun c => yes (Or.inr (Or.inl c)), fun c1 => ⟨fun c => yes (Or.inr (Or.inr (Or.inl c))), fun c2 => ⟨fun c => yes (Or.inr (Or.inr (Or.inr (Or.inl c)))), fun c3 => ⟨fun c => yes (Or.inr (Or.inr (Or.inr (Or.inr (Or.inl c))))), fun c4 => ⟨fun c => yes (Or.inr (Or.inr (Or.inr (Or.inr (Or.inr (Or.inl c)))))), fun c5 => ⟨fun c => yes (Or.inr (Or.inr (Or.inr (Or.inr (Or.inr (Or.inr c)))))), fun c6 => ?_⟩⟩⟩⟩⟩⟩⟩
      have hn : ¬ isLt (hrF tx e p) := by
        rintro (q | q | q | q | q | q | q)
        · exact h1 q
        · exact c1 q
        · exact c2 q
        · exact c3 q
        · exact c4 q
        · exact c5 q
        · exact c6 q
      rw [if_neg hn] at hX
      subst hX
      rw [h.2.2.2.1]
      refine (fault_ok A h).to ?_
      rintro _ m1 ⟨rfl, h2, f2⟩
      refine ⟨rfl, rfl, ?_, by show q ≤ (fltF (nI p) (p, w)).1; rw [flt_1]; exact hq, f.tr f2 (RS_sub rfl)⟩
      show PS a sz tp e tx (fltF (nI p) (p, w)).1 (fltF (nI p) (p, w)).2 m1
      rw [flt_1]
      exact h2
theorem thg_ok {n dp : Nat} {gt gh : Sp → Int32 × Sp} (A : PA a na sz tp e) (hdp : dp ≤ 4)
    (It : ∀ p w m, PS a sz tp e tx p w m → EN ad g m → 4 * (e - p) + 1 ≤ n → Ct ad μX12_thing (d + n + 3) [.ref (ad 187), .int (nI dp)] m (PO a sz tp e tx p m (gt (p, w))))
    (Ih : dp < 4 → ∀ p w m, PS a sz tp e tx p w m → EN ad g m → 4 * (e - p) + 4 ≤ n → Ct ad μX12_held (d + n + 3) [.ref (ad 187), .int (nI (dp + 1))] m (PO a sz tp e tx p m (gh (p, w))))
    (p : Nat) (w : Int32) (m : Wm) (h : PS a sz tp e tx p w m) (E : EN ad g m) (hn : 4 * (e - p) + 1 ≤ n + 1) : Ct ad μX12_thing (d + n + 3 + 1) [.ref (ad 187), .int (nI dp)] m (PO a sz tp e tx p m (thgF tx e g gt gh dp (p, w))) := by
  have hpe : p ≤ e := h.2.2.2.2.2.1
  refine v_X12_thing ((passes_ok A h (by decide)).to ?_)
  rintro _ m1 ⟨rfl, h1, f1⟩
  by_cases e1 : passF tx e 45 (p, w) = true
  · rw [if_pos e1] at h1
    have hp := pass_lt e1 (by decide)
    refine ⟨1, by rw [if_pos e1], fun c => absurd c (by decide), fun _ => (It (p + 1) w m1 h1 (E.fx f1) (by have : p < e := hp; omega)).to ?_⟩
    rintro _ m2 ⟨rfl, h2, l2, f2⟩
    refine ⟨_, rfl, ?_⟩
    have ex : thgF tx e g gt gh dp (p, w) = (-(gt (p + 1, w)).1, (gt (p + 1, w)).2) := if_pos e1
    rw [ex]
    exact ⟨rfl, h2, by show p ≤ (gt (p + 1, w)).2.1; omega, f1.tr f2 (RS_sub rfl)⟩
  · rw [if_neg e1] at h1
    refine ⟨0, by rw [if_neg e1], fun _ => (fine_ok h1).to ?_, fun c => absurd rfl c⟩
    rintro _ m' ⟨eq, rfl⟩
    obtain rfl := eq.symm
    by_cases hw : w = -1
    · refine ⟨1, by rw [if_pos hw], fun _ => (here_ok A h1).to ?_, fun c => absurd c (by decide)⟩
      rintro _ m' ⟨eq, rfl⟩
      obtain rfl := eq.symm
      have ex : thgF tx e g gt gh dp (p, w) = if hrF tx e p = 40 ∧ dp < 4 then ((gh (p + 1, w)).1, needF tx e 41 (gh (p + 1, w)).2) else if 48 ≤ hrF tx e p ∧ hrF tx e p ≤ 57 then ((numF tx e 3 0 p).1, ((numF tx e 3 0 p).2, w)) else if isLt (hrF tx e p) then (g (hrF tx e p), (p + 1, w)) else (0, fltF (nI p) (p, w)) := by
        unfold thgF
        rw [if_neg e1, if_neg (fun q => q hw)]
      refine ⟨_, rfl, fun c40 => ?_, fun c40 => ⟨fun c4 => ?_, fun c4 => ?_⟩⟩
      · rw [if_neg (fun q => c40 q.1)] at ex
        exact a67 (d := d + n + 1) A h1 (E.fx f1) (Nat.le_refl _) f1 ex
      · have h4 := (nI_leI (a := 4) (b := dp) (by omega) (by omega)).mp c4
        rw [if_neg (fun q => by have := q.2; omega)] at ex
        exact a67 (d := d + n + 1) A h1 (E.fx f1) (Nat.le_refl _) f1 ex
      · have h4 : dp < 4 := by
          have := (not_congr (nI_leI (a := 4) (b := dp) (by omega) (by omega))).mp c4
          omega
        rw [if_pos ⟨c40, h4⟩] at ex
        rw [ex]
        have hp : p < e := by
          unfold hrF at c40
          by_cases hp : p < e
          · exact hp
          · rw [if_neg hp] at c40
            exact absurd c40 (by decide)
        have h2 := at_up A h1 hp
        have f2 : Fx (RS [22]) m m1 := f1
        have f3 : Fx (RS [22]) m1 (uI m1 187 21 ((m1.1 187 21) + 1)) := Fx.rf.i rfl
        rw [nI_1]
        refine (Ih h4 (p + 1) w _ h2 ((E.fx f2).fx f3) (by omega)).to ?_
        rintro _ m3 ⟨rfl, h3, l3, f4⟩
        refine ⟨_, rfl, (need_ok A h3 (by decide)).to ?_⟩
        rintro _ m4 ⟨rfl, h5, f5⟩
        exact ⟨rfl, rfl, h5, by have := need_le (tx := tx) (e := e) (c := 41) (s := (gh (p + 1, w)).2); show p ≤ (needF tx e 41 (gh (p + 1, w)).2).1; omega, ((f2.tr f3 (RS_sub rfl)).tr f4 (RS_sub rfl)).tr f5 (RS_sub rfl)⟩
    · refine ⟨0, by rw [if_neg hw], fun c => absurd rfl c, fun _ => ?_⟩
      have ex : thgF tx e g gt gh dp (p, w) = (0, (p, w)) := by
        unfold thgF
        rw [if_neg e1, if_pos hw]
      rw [ex]
      exact ⟨rfl, h1, Nat.le_refl _, f1⟩
theorem bool_of {b : Prop} [Decidable b] {x : Int32} : (if b then (1 : Int32) else 0) = x → (x = 0 ↔ ¬ b) := by
  rintro rfl
  by_cases h : b <;> simp [h]
theorem prl_ok {n dp : Nat} {gt : Sp → Int32 × Sp} (A : PA a na sz tp e)
    (It : ∀ p w m, PS a sz tp e tx p w m → EN ad g m → 4 * (e - p) + 1 ≤ n → Ct ad μX12_thing (d + n + 3) [.ref (ad 187), .int (nI dp)] m (PO a sz tp e tx p m (gt (p, w)))) :
    ∀ (k p q : Nat) (w acc : Int32) (m m0 : Wm), e - p < k → PS a sz tp e tx p w m → EN ad g m → 4 * (e - p) + 1 ≤ n + 1 → q ≤ p → Fx (RS [22]) m0 m → AW ad E0 μX12_product (d + n + 3 + 1) (PO a sz tp e tx q m0 (loopF tx e 42 47 opM gt k acc (p, w))) 6 [(0, .ref (ad 187)), (1, .int (nI dp)), (2, .int acc)] [] m := by
  intro k
  induction k with
  | zero => intros; omega
  | succ k ih =>
    intro p q w acc m m0 hk h E hn hq f
    have hpe : p ≤ e := h.2.2.2.2.2.1
    have stop : ¬ (w = -1 ∧ (hrF tx e p = 42 ∨ hrF tx e p = 47)) → PO a sz tp e tx q m0 (loopF tx e 42 47 opM gt (k + 1) acc (p, w)) (some (.int acc)) m := fun hc => by
      have ex : loopF tx e 42 47 opM gt (k + 1) acc (p, w) = (acc, (p, w)) := if_neg hc
      rw [ex]
      exact ⟨rfl, h, hq, f⟩
    have go : w = -1 → (hrF tx e p = 42 ∨ hrF tx e p = 47) → AW ad E0 μX12_product (d + n + 3 + 1) (PO a sz tp e tx q m0 (loopF tx e 42 47 opM gt (k + 1) acc (p, w))) 31 [(0, .ref (ad 187)), (1, .int (nI dp)), (2, .int acc)] [] m := fun hw hc => by
      have hp : p < e := by
        unfold hrF at hc
        by_cases hp : p < e
        · exact hp
        · rw [if_neg hp] at hc
          exact absurd hc (by decide)
      have ex : loopF tx e 42 47 opM gt (k + 1) acc (p, w) = loopF tx e 42 47 opM gt k (opM (decide (hrF tx e p = 42)) acc (gt (p + 1, w)).1) (gt (p + 1, w)).2 := if_pos ⟨hw, hc⟩
      rw [ex]
      have h1 := at_up A h hp
      have f1 : Fx (RS [22]) m (uI m 187 21 ((m.1 187 21) + 1)) := Fx.rf.i rfl
      have step : ∀ b : Bool, b = decide (hrF tx e p = 42) → AW ad E0 μX12_product (d + n + 3 + 1) (PO a sz tp e tx q m0 (loopF tx e 42 47 opM gt k (opM (decide (hrF tx e p = 42)) acc (gt (p + 1, w)).1) (gt (p + 1, w)).2)) 45 [(0, .ref (ad 187)), (1, .int (nI dp)), (2, .int acc)] [.int (if b = true then 1 else 0)] m := fun b hb => by
        rw [← hb]
        refine g_X12_product_45 ((It (p + 1) w _ h1 (E.fx f1) (by omega)).to ?_)
        rintro _ m2 ⟨rfl, h2, l2, f2⟩
        have h2e : (gt (p + 1, w)).2.1 ≤ e := h2.2.2.2.2.2.1
        have nx : ∀ v, v = opM b acc (gt (p + 1, w)).1 → AW ad E0 μX12_product (d + n + 3 + 1) (PO a sz tp e tx q m0 (loopF tx e 42 47 opM gt k (opM b acc (gt (p + 1, w)).1) (gt (p + 1, w)).2)) 6 [(0, .ref (ad 187)), (1, .int (nI dp)), (2, .int v)] [] m2 := fun v hv => by
          rw [hv]
          exact ih (gt (p + 1, w)).2.1 q (gt (p + 1, w)).2.2 _ m2 m0 (by omega) h2 ((E.fx f1).fx f2) (by omega) (by omega) ((f.tr f1 (RS_sub rfl)).tr f2 (RS_sub rfl))
        cases b with
        | true => exact ⟨_, rfl, fun c => absurd c (by decide), fun _ => nx _ rfl⟩
        | false =>
          refine ⟨_, rfl, fun _ => ⟨fun c => ⟨c, nx _ ?_⟩, fun c => nx _ ?_⟩, fun c => absurd rfl c⟩
          · show _ = if false = true then _ else if (gt (p + 1, w)).1 = 0 then 0 else _
            rw [if_neg (by decide), if_neg c]
          · show _ = if false = true then _ else if (gt (p + 1, w)).1 = 0 then 0 else _
            rw [if_neg (by decide), if_pos c]
      refine g_X12_product_31 ((here_ok A h).to ?_)
      rintro _ m' ⟨eq, rfl⟩
      obtain rfl := eq.symm
      refine ⟨_, rfl, fun c => ?_, fun c => ?_⟩
      · have := step false (by rw [decide_eq_false c])
        exact this
      · have := step true (by rw [decide_eq_true c])
        exact this
    refine g_X12_product_6 ((fine_ok h).to ?_)
    rintro _ m' ⟨eq, rfl⟩
    obtain rfl := eq.symm
    by_cases hw : w = -1
    · refine ⟨1, by rw [if_pos hw], fun c => absurd c (by decide), fun _ => (here_ok A h).to ?_⟩
      rintro _ m' ⟨eq, rfl⟩
      obtain rfl := eq.symm
      refine ⟨_, rfl, fun c => go hw (Or.inl c), fun c => (here_ok A h).to ?_⟩
      rintro _ m' ⟨eq, rfl⟩
      obtain rfl := eq.symm
      exact ⟨_, rfl, fun c' => stop (fun q => q.2.elim c c'), fun c' => go hw (Or.inr c')⟩
    · exact ⟨0, by rw [if_neg hw], fun _ => stop (fun q => hw q.1), fun c => absurd rfl c⟩
theorem sml_ok {n dp : Nat} {gt : Sp → Int32 × Sp} (A : PA a na sz tp e)
    (It : ∀ p w m, PS a sz tp e tx p w m → EN ad g m → 4 * (e - p) + 2 ≤ n → Ct ad μX12_product (d + n + 3) [.ref (ad 187), .int (nI dp)] m (PO a sz tp e tx p m (gt (p, w)))) :
    ∀ (k p q : Nat) (w acc : Int32) (m m0 : Wm), e - p < k → PS a sz tp e tx p w m → EN ad g m → 4 * (e - p) + 2 ≤ n + 1 → q ≤ p → Fx (RS [22]) m0 m → AW ad E0 μX12_sum (d + n + 3 + 1) (PO a sz tp e tx q m0 (loopF tx e 43 45 opA gt k acc (p, w))) 6 [(0, .ref (ad 187)), (1, .int (nI dp)), (2, .int acc)] [] m := by
  intro k
  induction k with
  | zero => intros; omega
  | succ k ih =>
    intro p q w acc m m0 hk h E hn hq f
    have hpe : p ≤ e := h.2.2.2.2.2.1
    have stop : ¬ (w = -1 ∧ (hrF tx e p = 43 ∨ hrF tx e p = 45)) → PO a sz tp e tx q m0 (loopF tx e 43 45 opA gt (k + 1) acc (p, w)) (some (.int acc)) m := fun hc => by
      have ex : loopF tx e 43 45 opA gt (k + 1) acc (p, w) = (acc, (p, w)) := if_neg hc
      rw [ex]
      exact ⟨rfl, h, hq, f⟩
    have go : w = -1 → (hrF tx e p = 43 ∨ hrF tx e p = 45) → AW ad E0 μX12_sum (d + n + 3 + 1) (PO a sz tp e tx q m0 (loopF tx e 43 45 opA gt (k + 1) acc (p, w))) 31 [(0, .ref (ad 187)), (1, .int (nI dp)), (2, .int acc)] [] m := fun hw hc => by
      have hp : p < e := by
        unfold hrF at hc
        by_cases hp : p < e
        · exact hp
        · rw [if_neg hp] at hc
          exact absurd hc (by decide)
      have ex : loopF tx e 43 45 opA gt (k + 1) acc (p, w) = loopF tx e 43 45 opA gt k (opA (decide (hrF tx e p = 43)) acc (gt (p + 1, w)).1) (gt (p + 1, w)).2 := if_pos ⟨hw, hc⟩
      rw [ex]
      have h1 := at_up A h hp
      have f1 : Fx (RS [22]) m (uI m 187 21 ((m.1 187 21) + 1)) := Fx.rf.i rfl
      have step : ∀ b : Bool, b = decide (hrF tx e p = 43) → AW ad E0 μX12_sum (d + n + 3 + 1) (PO a sz tp e tx q m0 (loopF tx e 43 45 opA gt k (opA (decide (hrF tx e p = 43)) acc (gt (p + 1, w)).1) (gt (p + 1, w)).2)) 45 [(0, .ref (ad 187)), (1, .int (nI dp)), (2, .int acc)] [.int (if b = true then 1 else 0)] m := fun b hb => by
        rw [← hb]
        refine g_X12_sum_45 ((It (p + 1) w _ h1 (E.fx f1) (by omega)).to ?_)
        rintro _ m2 ⟨rfl, h2, l2, f2⟩
        have h2e : (gt (p + 1, w)).2.1 ≤ e := h2.2.2.2.2.2.1
        have nx : AW ad E0 μX12_sum (d + n + 3 + 1) (PO a sz tp e tx q m0 (loopF tx e 43 45 opA gt k (opA b acc (gt (p + 1, w)).1) (gt (p + 1, w)).2)) 6 [(0, .ref (ad 187)), (1, .int (nI dp)), (2, .int (opA b acc (gt (p + 1, w)).1))] [] m2 :=
          ih (gt (p + 1, w)).2.1 q (gt (p + 1, w)).2.2 _ m2 m0 (by omega) h2 ((E.fx f1).fx f2) (by omega) (by omega) ((f.tr f1 (RS_sub rfl)).tr f2 (RS_sub rfl))
        cases b with
        | true => exact ⟨_, rfl, fun c => absurd c (by decide), fun _ => nx⟩
        | false => exact ⟨_, rfl, fun _ => nx, fun c => absurd rfl c⟩
      refine g_X12_sum_31 ((here_ok A h).to ?_)
      rintro _ m' ⟨eq, rfl⟩
      obtain rfl := eq.symm
      refine ⟨_, rfl, fun c => ?_, fun c => ?_⟩
      · have := step false (by rw [decide_eq_false c])
        exact this
      · have := step true (by rw [decide_eq_true c])
        exact this
    refine g_X12_sum_6 ((fine_ok h).to ?_)
    rintro _ m' ⟨eq, rfl⟩
    obtain rfl := eq.symm
    by_cases hw : w = -1
    · refine ⟨1, by rw [if_pos hw], fun c => absurd c (by decide), fun _ => (here_ok A h).to ?_⟩
      rintro _ m' ⟨eq, rfl⟩
      obtain rfl := eq.symm
      refine ⟨_, rfl, fun c => go hw (Or.inl c), fun c => (here_ok A h).to ?_⟩
      rintro _ m' ⟨eq, rfl⟩
      obtain rfl := eq.symm
      exact ⟨_, rfl, fun c' => stop (fun q => q.2.elim c c'), fun c' => go hw (Or.inr c')⟩
    · exact ⟨0, by rw [if_neg hw], fun _ => stop (fun q => hw q.1), fun c => absurd rfl c⟩
theorem hld_ok {n dp : Nat} {gs : Sp → Int32 × Sp} (A : PA a na sz tp e)
    (Is : ∀ p w m, PS a sz tp e tx p w m → EN ad g m → 4 * (e - p) + 3 ≤ n → Ct ad μX12_sum (d + n + 3) [.ref (ad 187), .int (nI dp)] m (PO a sz tp e tx p m (gs (p, w))))
    (p : Nat) (w : Int32) (m : Wm) (h : PS a sz tp e tx p w m) (E : EN ad g m) (hn : 4 * (e - p) + 4 ≤ n + 1) : Ct ad μX12_held (d + n + 3 + 1) [.ref (ad 187), .int (nI dp)] m (PO a sz tp e tx p m (cmpF tx e gs (gs (p, w)))) := by
  have hpe : p ≤ e := h.2.2.2.2.2.1
  refine v_X12_held ((Is p w m h E (by omega)).to ?_)
  rintro _ m1 ⟨rfl, h1, l1, f1⟩
  generalize gs (p, w) = X at h1 l1 ⊢
  obtain ⟨x, q, u⟩ := X
  have hqe : q ≤ e := h1.2.2.2.2.2.1
  have E1 := E.fx f1
  refine ⟨x, rfl, (passes_ok A h1 (c := 60) (by decide)).to ?_⟩
  rintro _ m2 ⟨rfl, h2, f2⟩
  by_cases e1 : passF tx e 60 (q, u) = true
  · rw [if_pos e1] at h2
    have hq : q < e := pass_lt e1 (by decide)
    refine ⟨1, by rw [if_pos e1], fun c => absurd c (by decide), fun _ => (Is (q + 1) u m2 h2 (E1.fx f2) (by have : p ≤ q := l1; omega)).to ?_⟩
    rintro _ m3 ⟨rfl, h3, l3, f3⟩
    have ex : cmpF tx e gs (x, (q, u)) = ((if x < (gs (q + 1, u)).1 then 1 else 0), (gs (q + 1, u)).2) := if_pos e1
    rw [ex]
    have fin : Fx (RS [22]) m m3 := (f1.tr f2 (RS_sub rfl)).tr f3 (RS_sub rfl)
    refine ⟨_, rfl, fun c => ⟨?_, h3, by have : p ≤ q := l1; show p ≤ (gs (q + 1, u)).2.1; omega, fin⟩, fun c => ⟨?_, h3, by have : p ≤ q := l1; show p ≤ (gs (q + 1, u)).2.1; omega, fin⟩⟩
    · rw [if_neg (Int32.not_lt.mpr c)]
    · rw [if_pos (fa_of_nle c)]
  · rw [if_neg e1] at h2
    refine ⟨0, by rw [if_neg e1], fun _ => (passes_ok A h2 (c := 62) (by decide)).to ?_, fun c => absurd rfl c⟩
    rintro _ m3 ⟨rfl, h3, f3⟩
    by_cases e2 : passF tx e 62 (q, u) = true
    · rw [if_pos e2] at h3
      have hq : q < e := pass_lt e2 (by decide)
      refine ⟨1, by rw [if_pos e2], fun c => absurd c (by decide), fun _ => (Is (q + 1) u m3 h3 ((E1.fx f2).fx f3) (by have : p ≤ q := l1; omega)).to ?_⟩
      rintro _ m4 ⟨rfl, h4, l4, f4⟩
      have ex : cmpF tx e gs (x, (q, u)) = ((if (gs (q + 1, u)).1 < x then 1 else 0), (gs (q + 1, u)).2) := by
        unfold cmpF
        rw [if_neg e1, if_pos e2]
      rw [ex]
      have fin : Fx (RS [22]) m m4 := ((f1.tr f2 (RS_sub rfl)).tr f3 (RS_sub rfl)).tr f4 (RS_sub rfl)
      refine ⟨_, rfl, fun c => ⟨?_, h4, by have : p ≤ q := l1; show p ≤ (gs (q + 1, u)).2.1; omega, fin⟩, fun c => ⟨?_, h4, by have : p ≤ q := l1; show p ≤ (gs (q + 1, u)).2.1; omega, fin⟩⟩
      · rw [if_neg (Int32.not_lt.mpr c)]
      · rw [if_pos (fa_of_nle c)]
    · rw [if_neg e2] at h3
      refine ⟨0, by rw [if_neg e2], fun _ => (passes_ok A h3 (c := 61) (by decide)).to ?_, fun c => absurd rfl c⟩
      rintro _ m4 ⟨rfl, h4, f4⟩
      by_cases e3 : passF tx e 61 (q, u) = true
      · rw [if_pos e3] at h4
        have hq : q < e := pass_lt e3 (by decide)
        refine ⟨1, by rw [if_pos e3], fun c => absurd c (by decide), fun _ => (Is (q + 1) u m4 h4 (((E1.fx f2).fx f3).fx f4) (by have : p ≤ q := l1; omega)).to ?_⟩
        rintro _ m5 ⟨rfl, h5, l5, f5⟩
        have ex : cmpF tx e gs (x, (q, u)) = ((if x = (gs (q + 1, u)).1 then 1 else 0), (gs (q + 1, u)).2) := by
          unfold cmpF
          rw [if_neg e1, if_neg e2, if_pos e3]
        rw [ex]
        have fin : Fx (RS [22]) m m5 := (((f1.tr f2 (RS_sub rfl)).tr f3 (RS_sub rfl)).tr f4 (RS_sub rfl)).tr f5 (RS_sub rfl)
        refine ⟨_, rfl, fun c => ⟨?_, h5, by have : p ≤ q := l1; show p ≤ (gs (q + 1, u)).2.1; omega, fin⟩, fun c => ⟨?_, h5, by have : p ≤ q := l1; show p ≤ (gs (q + 1, u)).2.1; omega, fin⟩⟩
        · rw [if_neg c]
        · rw [if_pos c]
      · rw [if_neg e3] at h4
        have ex : cmpF tx e gs (x, (q, u)) = (x, (q, u)) := by
          unfold cmpF
          rw [if_neg e1, if_neg e2, if_neg e3]
        rw [ex]
        exact ⟨0, by rw [if_neg e3], fun _ => ⟨rfl, h4, l1, ((f1.tr f2 (RS_sub rfl)).tr f3 (RS_sub rfl)).tr f4 (RS_sub rfl)⟩, fun c => absurd rfl c⟩
/-- all four together -/
theorem rul_ok (A : PA a na sz tp e) : ∀ n : Nat,
    (∀ dp, dp ≤ 4 → ∀ p w m, PS a sz tp e tx p w m → EN ad g m → 4 * (e - p) + 1 ≤ n → Ct ad μX12_thing (d + n + 3) [.ref (ad 187), .int (nI dp)] m (PO a sz tp e tx p m (prF tx e g n 0 dp (p, w)))) ∧
    (∀ dp, dp ≤ 4 → ∀ p w m, PS a sz tp e tx p w m → EN ad g m → 4 * (e - p) + 2 ≤ n → Ct ad μX12_product (d + n + 3) [.ref (ad 187), .int (nI dp)] m (PO a sz tp e tx p m (prF tx e g n 1 dp (p, w)))) ∧
    (∀ dp, dp ≤ 4 → ∀ p w m, PS a sz tp e tx p w m → EN ad g m → 4 * (e - p) + 3 ≤ n → Ct ad μX12_sum (d + n + 3) [.ref (ad 187), .int (nI dp)] m (PO a sz tp e tx p m (prF tx e g n 2 dp (p, w)))) ∧
    (∀ dp, dp ≤ 4 → ∀ p w m, PS a sz tp e tx p w m → EN ad g m → 4 * (e - p) + 4 ≤ n → Ct ad μX12_held (d + n + 3) [.ref (ad 187), .int (nI dp)] m (PO a sz tp e tx p m (prF tx e g n 3 dp (p, w)))) := by
  have he : e ≤ 80 := by have := A.2.2.2.1; have := A.2.2.2.2.1; omega
  intro n
  induction n with
  | zero => exact ⟨fun _ _ _ _ _ _ _ h => by omega, fun _ _ _ _ _ _ _ h => by omega, fun _ _ _ _ _ _ _ h => by omega, fun _ _ _ _ _ _ _ h => by omega⟩
  | succ n ih =>
    obtain ⟨i0, i1, i2, i3⟩ := ih
    refine ⟨fun dp hdp p w m h E hn => ?_, fun dp hdp p w m h E hn => ?_, fun dp hdp p w m h E hn => ?_, fun dp hdp p w m h E hn => ?_⟩
    · exact thg_ok A hdp (i0 dp hdp) (fun h4 => i3 (dp + 1) (by omega)) p w m h E hn
    · refine v_X12_product ((i0 dp hdp p w m h E (by omega)).to ?_)
      rintro _ m1 ⟨rfl, h1, l1, f1⟩
      have l2 : p ≤ (prF tx e g n 0 dp (p, w)).2.1 := l1
      exact ⟨_, rfl, prl_ok A (i0 dp hdp) 81 (prF tx e g n 0 dp (p, w)).2.1 p _ _ m1 m (by omega) h1 (E.fx f1) (by omega) l2 f1⟩
    · refine v_X12_sum ((i1 dp hdp p w m h E (by omega)).to ?_)
      rintro _ m1 ⟨rfl, h1, l1, f1⟩
      have l2 : p ≤ (prF tx e g n 1 dp (p, w)).2.1 := l1
      exact ⟨_, rfl, sml_ok A (i1 dp hdp) 81 (prF tx e g n 1 dp (p, w)).2.1 p _ _ m1 m (by omega) h1 (E.fx f1) (by omega) l2 f1⟩
    · exact hld_ok A (i2 dp hdp) p w m h E hn
end DES
end
section
/-! THE MODEL BY HAND: POWER, questions, what is told -/
theorem nf {p : Prop} (h : false = true) : p := by cases h
theorem ite_ne {c : Prop} [Decidable c] {x y z : Nat} (hx : x ≠ z) (hy : y ≠ z) : (if c then x else y) ≠ z := by
  by_cases h : c
  · rw [if_pos h]; exact hx
  · rw [if_neg h]; exact hy
theorem rg_ne22 {a k : Nat} (ha : a ≠ 187) : rg a k ≠ 22 := by
  unfold rg
  rw [if_neg ha]
  repeat' (first | decide | apply ite_ne)
theorem rg_22 {a k : Nat} (h : RS [22] a k) : rg a k = 22 := by
  have h2 := List.mem_of_elem_eq_true h
  simpa using h2
theorem TY22 {a k : Nat} (h : RS [22] a k) : TY a k = none := by
  have h1 := rg_22 h
  by_cases ha : a = 187
  · subst ha
    by_cases hk : k < 57
    · have h3 : ∀ k : Fin 57, rg 187 k.val = 22 → TY 187 k.val = none := by decide +kernel
      exact h3 ⟨k, hk⟩ h1
    · exfalso
      have h4 : rg 187 k = rgK k := rfl
      rw [h4] at h1
      unfold rgK at h1
      repeat rw [if_neg (by omega)] at h1
      cases h1
  · exact absurd h1 (rg_ne22 ha)
theorem WT.fx {m m' : Wm} (h : WT m) (f : Fx (RS [22]) m m') : WT m' := by
  refine ⟨fun a k lo hi e => ?_, ?_⟩
  · have hn : ¬ RS [22] a k := fun q => by rw [TY22 q] at e; cases e
    rw [f.at hn]
    exact h.1 a k lo hi e
  · obtain ⟨h1, h2, h3, h4, h5, h6, h7, h8⟩ := h.2
    have r : ∀ a k, a < 187 → m'.2.2 a k = m.2.2 a k := fun a k ha => (f a k (fun q => rg_ne22 (by omega) (rg_22 q))).2.2
    refine ⟨?_, ?_, ?_, ?_, fun k hk => ?_, fun k hk => ?_, fun k hk => ?_, fun k hk => ?_⟩
    · rw [r 3 1 (by decide)]; exact h1
    · rw [r 3 2 (by decide)]; exact h2
    · rw [r 0 9 (by decide)]; exact h3
    · rw [r 0 10 (by decide)]; exact h4
    · rw [r 32 k (by decide)]; exact h5 k hk
    · rw [r 133 k (by decide)]; exact h6 k hk
    · rw [r 32 k (by decide)]; exact h7 k hk
    · rw [r 133 k (by decide)]; exact h8 k hk
def clM (v : Int32) : Int32 := if -9999 < (if v < 9999 then v else 9999) then (if v < 9999 then v else 9999) else -9999
/-- POWER in the model: side s -/
def pwF (rt : Nat → Int32) (rs : Nat) (f g h : Nat → Int32) (ar s : Nat) : Int32 :=
  if rs = 0 then smF f (4 * s) ar else clM (prF rt rs (ltF f g h ar s) 164 3 0 (0, -1)).1
def pwM (m : Wm) (s : Nat) : Int32 := pwF (m.1 200) (m.1 187 27).toNatClampNeg (m.1 188) (m.1 190) (m.1 191) (m.1 187 0).toNatClampNeg s
section HND
variable {ad : Nat → Nat} {d : Nat} {m : Wm}
theorem begin_ok {a na : Nat} {x2 x3 : Int32} (ha : LAY[a]? = some (.inr (1, na))) : Ct ad μX12_begin d [.ref (ad 187), .ref (ad a), .int x2, .int x3] m (fun r m' => r = none ∧ m' = uI (uI (uI (uI (uR m 187 18 (some a)) 187 19 x2) 187 20 x3) 187 21 0) 187 22 (-1)) :=
  v_X12_begin ha ⟨rfl, rfl⟩
def bgM (m : Wm) (a : Nat) (x2 x3 : Int32) : Wm := uI (uI (uI (uI (uR m 187 18 (some a)) 187 19 x2) 187 20 x3) 187 21 0) 187 22 (-1)
theorem bg_fx {a : Nat} {x2 x3 : Int32} : Fx (RS [22]) m (bgM m a x2 x3) := ((((Fx.r (S := RS [22]) Fx.rf rfl).i rfl).i rfl).i rfl).i rfl
theorem bg_ps {a sz tp e : Nat} (he : e ≤ 80) (ha : a ≠ 187) : PS a sz tp e (m.1 a) 0 (-1) (bgM m a (nI sz) (nI tp)) :=
  ⟨rfl, rfl, rfl, rfl, rfl, Nat.zero_le _, fun k hk => by
    show (if a = 187 ∧ k = 22 then _ else if a = 187 ∧ k = 21 then _ else if a = 187 ∧ k = 20 then _ else if a = 187 ∧ k = 19 then _ else m.1 a k) = m.1 a k
    rw [if_neg (fun q => ha q.1), if_neg (fun q => ha q.1), if_neg (fun q => ha q.1), if_neg (fun q => ha q.1)]⟩
theorem fx_cell {l : List Nat} {m m' : Wm} {a ρ : Nat} (f : Fx (RS l) m m') (h : ∀ k, rg a k = ρ) (hl : l.elem ρ = false) : m'.1 a = m.1 a := by
  funext k
  refine f.at (fun q => ?_)
  unfold RS at q
  rw [h k, hl] at q
  cases q
theorem en_side {s ar : Nat} (hs : s < 8) (ha : m.1 187 0 = nI ar) (har : ar ≤ 4) (h28 : m.1 187 28 = nI s) : EN ad (ltF (m.1 188) (m.1 190) (m.1 191) ar s) m := by
  refine Or.inr ⟨fun q => m1_ne s (by omega) (q.symm.trans h28), fun m1 f c d => ?_⟩
  have e1 := fx_cell (a := 188) (ρ := 24) f (fun _ => rfl) rfl
  have e2 := fx_cell (a := 190) (ρ := 24) f (fun _ => rfl) rfl
  have e3 := fx_cell (a := 191) (ρ := 24) f (fun _ => rfl) rfl
  have h := letter_ok (ad := ad) (d := d) (m := m1) (s := s) (ar := ar) (c := c) ((f.at (by decide)).trans ha) har hs ((f.at (by decide)).trans h28)
  rw [e1, e2, e3] at h
  exact h
theorem WT.nat {m : Wm} (w : WT m) {a k : Nat} {lo hi : Int} (e : TY a k = some (lo, hi)) (h0 : 0 ≤ lo) : ∃ n : Nat, m.1 a k = nI n ∧ (m.1 a k).toNatClampNeg = n ∧ lo ≤ (n : Int) ∧ (n : Int) ≤ hi ∧ n < 2147483648 := by
  have h := w.at e
  obtain ⟨n, hn, e1⟩ := zn_of (x := m.1 a k) (by omega)
  refine ⟨n, e1, ?_, ?_, ?_, hn⟩
  · rw [e1, nI_clamp hn]
  · rw [e1, nI_toInt hn] at h; exact h.1
  · rw [e1, nI_toInt hn] at h; exact h.2
theorem power_ok (w : WT m) {s : Nat} (hs : s < 8) : Ct ad μX12_power (d + 168) [.ref (ad 187), .int (nI s)] m (fun r m' => WT m' ∧ Fx (RS [22, 28]) m m' ∧ r = some (.int (pwM m s))) := by
  obtain ⟨ar, ea, ca, a1, a2, -⟩ := w.nat (a := 187) (k := 0) rfl (by decide)
  obtain ⟨rs, er, cr, r1, r2, -⟩ := w.nat (a := 187) (k := 27) rfl (by decide)
  refine v_X12_power ⟨fun h => ?_, fun h => ?_⟩
  · have hr : rs ≠ 0 := fun q => h (by rw [er, q]; rfl)
    rw [er]
    refine (begin_ok (na := 40) rfl).to ?_
    rintro _ m1 ⟨rfl, e1⟩
    have e1' : m1 = bgM m 200 (nI rs) (nI 40) := e1
    subst e1'
    clear e1
    refine ⟨rfl, ?_⟩
    have f1 : Fx (RS [22]) m (bgM m 200 (nI rs) (nI 40)) := bg_fx
    have w1 := w.fx f1
    have w2 : WT (uI (bgM m 200 (nI rs) (nI 40)) 187 28 (nI s)) := w1.t rfl (by rw [nI_toInt (by omega)]; omega) (by rw [nI_toInt (by omega)]; omega)
    have A : PA 200 40 rs 40 rs := ⟨rfl, by omega, by decide, by omega, by decide, by decide, Nat.le_refl _, by omega, Or.inl rfl⟩
    have P : PS 200 rs 40 rs (m.1 200) 0 (-1) (uI (bgM m 200 (nI rs) (nI 40)) 187 28 (nI s)) := bg_ps (sz := rs) (tp := 40) (e := rs) (by omega) (by decide)
    have En := en_side (ad := ad) (m := uI (bgM m 200 (nI rs) (nI 40)) 187 28 (nI s)) (s := s) (ar := ar) hs ea (by omega) rfl
    refine ((rul_ok (d := d) A 164).2.2.2 0 (by decide) 0 (-1) _ P En (by omega)).to ?_
    rintro _ m2 ⟨rfl, h2, -, f2⟩
    refine ⟨_, rfl, w2.fx f2, ((Fx.tr (S := RS [22, 28]) Fx.rf f1 (RS_sub rfl)).i (a := 187) (k := 28) (v := nI s) rfl).tr f2 (RS_sub rfl), ?_⟩
    have e2 : pwM m s = clM (prF (m.1 200) rs (ltF (m.1 188) (m.1 190) (m.1 191) ar s) 164 3 0 (0, -1)).1 := by
      unfold pwM pwF
      rw [ca, cr, if_neg hr]
    rw [e2]
    rfl
  · refine (sumOf_ok ea (by omega) hs).to ?_
    rintro _ m' ⟨eq, rfl⟩
    obtain rfl := eq.symm
    refine ⟨_, rfl, w, Fx.rf, ?_⟩
    have e2 : pwM m s = smF (m.1 188) (4 * s) ar := by
      unfold pwM pwF
      have hr : rs = 0 := by
        have h1 := congrArg Int32.toInt (er.symm.trans h)
        rw [nI_toInt (by omega)] at h1
        have h2 : (0 : Int32).toInt = 0 := rfl
        omega
      rw [ca, cr, if_pos hr]
    rw [e2]
theorem s_X12_power {x1 : Int32} (w : WT m) (i1 : (0 : Int) ≤ x1.toInt) (i2 : x1.toInt ≤ (7 : Int)) : Ct ad μX12_power (d + 168) [.ref (ad 187), .int x1] m (fun r m' => WT m' ∧ Fx (RS [22, 28]) m m' ∧ ∃ v : Int32, r = some (.int v)) := by
  obtain ⟨s, hs, rfl⟩ := zn_of i1
  rw [nI_toInt hs] at i2
  refine (power_ok w (by omega)).to ?_
  rintro _ m' ⟨h1, h2, rfl⟩
  exact ⟨h1, h2, _, rfl⟩
theorem s_X12_in {x lo hi : Int32} {y2 y4 : Int64} (w : WT m) (h2 : y2 = lo.toInt64) (h4 : y4 = hi.toInt64) : Ct ad μX12_in d [.long x.toInt64, .long y2, .long y4] m (fun r m' => WT m' ∧ Fx (RS []) m m' ∧ ∃ v : Int32, r = some (.int v) ∧ (0 : Int) ≤ v.toInt ∧ v.toInt ≤ 1 ∧ ((v.toInt = 0 ∧ (x.toInt < lo.toInt ∨ hi.toInt < x.toInt)) ∨ (v.toInt = 1 ∧ lo.toInt ≤ x.toInt ∧ x.toInt ≤ hi.toInt))) := by
  refine (in_i h2 h4).to ?_
  rintro _ m' ⟨eq, rfl⟩
  obtain rfl := eq.symm
  have z0 : (0 : Int32).toInt = 0 := rfl
  have z1 : (1 : Int32).toInt = 1 := rfl
  by_cases h : lo ≤ x ∧ x ≤ hi
  · have a1 := z_le h.1
    have a2 := z_le h.2
    exact ⟨w, Fx.rf, 1, by rw [if_pos h], by omega, by omega, by omega⟩
  · refine ⟨w, Fx.rf, 0, by rw [if_neg h], by omega, by omega, ?_⟩
    by_cases h1 : lo ≤ x
    · have a2 := z_nle (fun q => h ⟨h1, q⟩)
      omega
    · have a1 := z_nle h1
      omega
end HND
end
section
/-! THE MODEL BY HAND: texts that are read, exactly -/
theorem flt_2 {p : Nat} {w : Int32} (h : (fltF (nI p) (p, w)).2 = -1) (hp : p < 2147483648) : False := by
  unfold fltF at h
  by_cases hw : w = -1
  · rw [if_pos hw] at h
    exact m1_ne p hp h.symm
  · rw [if_neg hw] at h
    exact hw h
theorem flt_no {x : Int32} {s : Sp} (hx : x ≠ -1) : (fltF x s).2 ≠ -1 := by
  unfold fltF
  by_cases hw : s.2 = -1
  · rw [if_pos hw]; exact hx
  · rw [if_neg hw]; exact hw
theorem flt_keep {x : Int32} {s : Sp} (h : s.2 ≠ -1) : fltF x s = s := if_neg h
/-- a side's digit that is there and not in 'used' -/
def sdF (tx : Nat → Int32) (e : Nat) (n : Nat) (used : Int32) (s : Sp) : Int32 × Sp :=
  let q := digF tx e 0 9 s
  if q.2.2 = -1 then (if (0 ≤ q.1 ∧ q.1 ≤ nI n - 1) ∧ ¬ ((used >>> (q.1 &&& 31)) &&& 1) = 1 then q else (q.1, fltF (nI q.2.1 - 1) q.2)) else q
theorem dig_1 {tx : Nat → Int32} {e : Nat} {lo hi : Int32} {s : Sp} : s.1 ≤ (digF tx e lo hi s).2.1 := by
  unfold digF
  by_cases hw : s.2 = -1
  · rw [if_pos hw]
    by_cases hc : 48 + lo ≤ hrF tx e s.1 ∧ hrF tx e s.1 ≤ 48 + hi
    · rw [if_pos hc]; exact Nat.le_succ _
    · rw [if_neg hc, flt_1]; exact Nat.le_refl _
  · rw [if_neg hw]; exact Nat.le_refl _
theorem dig_2 {tx : Nat → Int32} {e : Nat} {lo hi : Int32} {s : Sp} (hs : s.1 < 2147483648) (h : (digF tx e lo hi s).2.2 = -1) : s.2 = -1 ∧ digF tx e lo hi s = (hrF tx e s.1 - 48, (s.1 + 1, s.2)) ∧ 48 + lo ≤ hrF tx e s.1 ∧ hrF tx e s.1 ≤ 48 + hi := by
  unfold digF at h ⊢
  by_cases hw : s.2 = -1
  · rw [if_pos hw] at h ⊢
    by_cases hc : 48 + lo ≤ hrF tx e s.1 ∧ hrF tx e s.1 ≤ 48 + hi
    · rw [if_pos hc]
      exact ⟨hw, rfl, hc⟩
    · rw [if_neg hc] at h
      exact (flt_2 (p := s.1) (w := s.2) h hs).elim
  · rw [if_neg hw] at h
    exact absurd h hw
theorem dig_v {lo hi x : Int32} {l u : Nat} (hl : lo = nI l) (hu : hi = nI u) (hl9 : l ≤ 9) (hu9 : u ≤ 9) (h1 : 48 + lo ≤ x) (h2 : x ≤ 48 + hi) : (l : Int) ≤ (x - 48).toInt ∧ (x - 48).toInt ≤ u := by
  subst hl hu
  have a1 := z_le h1
  have a2 := z_le h2
  have z48 : (48 : Int32).toInt = 48 := rfl
  have e1 : (nI l).toInt = l := nI_toInt (by omega)
  have e2 : (nI u).toInt = u := nI_toInt (by omega)
  have b1 := ti_add (x := 48) (y := nI l) (by omega)
  have b2 := ti_add (x := 48) (y := nI u) (by omega)
  have b3 := ti_sub (x := x) (y := 48) (by omega)
  omega
theorem bz_if {c : Prop} [Decidable c] {x : Int32} (h : x = if c then 1 else 0) : (x = 0 → ¬ c) ∧ (¬ x = 0 → c) := by
  subst h
  by_cases hc : c
  · exact ⟨fun q => absurd q (by rw [if_pos hc]; decide), fun _ => hc⟩
  · exact ⟨fun _ => hc, fun q => absurd (if_neg hc) q⟩
section TXT
variable {ad : Nat → Nat} {d : Nat} {m : Wm} {a na sz tp e : Nat} {tx : Nat → Int32} {p : Nat} {w : Int32}
theorem PS.small (h : PS a sz tp e tx p w m) (A : PA a na sz tp e) : p ≤ 80 := by
  have := h.2.2.2.2.2.1
  have := A.2.2.2.1
  have := A.2.2.2.2.1
  omega
theorem hasM_ok {x y : Int32} : Ct ad μX12_has d [.int x, .int y] m (fun r m' => m' = m ∧ r = some (.int (if ((x >>> (y &&& 31)) &&& 1) = 1 then 1 else 0))) :=
  v_X12_has ⟨fun h => ⟨rfl, by rw [if_neg h]⟩, fun h => ⟨rfl, by rw [if_pos h]⟩⟩
theorem isSide_c {x : Int32} {n : Nat} (hn : m.1 187 1 = nI n) : Ct ad μX12_isSide (d + 1) [.ref (ad 187), .int x] m (fun r m' => m' = m ∧ r = some (.int (if 0 ≤ x ∧ x ≤ nI n - 1 then 1 else 0))) := by
  have h := isSide_ok (ad := ad) (d := d) (m := m) (x := x)
  rw [hn] at h
  exact h
theorem side_ok (A : PA a na sz tp e) (h : PS a sz tp e tx p w m) {n : Nat} (hn : m.1 187 1 = nI n) {used : Int32} : Ct ad μX12_side (d + 3) [.ref (ad 187), .int used] m (fun r m' => r = some (.int (sdF tx e n used (p, w)).1) ∧ PS a sz tp e tx (sdF tx e n used (p, w)).2.1 (sdF tx e n used (p, w)).2.2 m' ∧ Fx (RS [22]) m m') := by
  refine v_X12_side ((digit_ok A h (lo := 0) (hi := 9) (by decide)).to ?_)
  rintro _ m1 ⟨rfl, h1, f1⟩
  have hq : sdF tx e n used (p, w) = if (digF tx e 0 9 (p, w)).2.2 = -1 then (if (0 ≤ (digF tx e 0 9 (p, w)).1 ∧ (digF tx e 0 9 (p, w)).1 ≤ nI n - 1) ∧ ¬ ((used >>> ((digF tx e 0 9 (p, w)).1 &&& 31)) &&& 1) = 1 then digF tx e 0 9 (p, w) else ((digF tx e 0 9 (p, w)).1, fltF (nI (digF tx e 0 9 (p, w)).2.1 - 1) (digF tx e 0 9 (p, w)).2)) else digF tx e 0 9 (p, w) := rfl
  generalize digF tx e 0 9 (p, w) = Q at h1 hq ⊢
  obtain ⟨v, q, u⟩ := Q
  refine ⟨v, rfl, (fine_ok h1).to ?_⟩
  rintro _ m' ⟨eq, rfl⟩
  obtain rfl := eq.symm
  by_cases hu : u = -1
  · have hq2 : sdF tx e n used (p, w) = if (0 ≤ v ∧ v ≤ nI n - 1) ∧ ¬ ((used >>> (v &&& 31)) &&& 1) = 1 then (v, (q, u)) else (v, fltF (nI q - 1) (q, u)) := by rw [hq]; exact if_pos hu
    have bad : ¬ ((0 ≤ v ∧ v ≤ nI n - 1) ∧ ¬ ((used >>> (v &&& 31)) &&& 1) = 1) → AW ad E0 μX12_side (d + 3) (fun r m' => r = some (.int (sdF tx e n used (p, w)).1) ∧ PS a sz tp e tx (sdF tx e n used (p, w)).2.1 (sdF tx e n used (p, w)).2.2 m' ∧ Fx (RS [22]) m m') 31 [(0, .ref (ad 187)), (2, .int v)] [] m1 := fun hb => by
      rw [if_neg hb] at hq2
      rw [hq2]
      refine g_X12_side_31 ?_
      rw [h1.2.2.2.1]
      refine (fault_ok A h1).to ?_
      rintro _ m2 ⟨rfl, h2, f2⟩
      refine ⟨rfl, rfl, ?_, f1.tr f2 (RS_sub rfl)⟩
      show PS a sz tp e tx (fltF (nI q - 1) (q, u)).1 (fltF (nI q - 1) (q, u)).2 m2
      rw [flt_1]
      exact h2
    refine ⟨1, by rw [if_pos hu], fun c => absurd c (by decide), fun _ => (isSide_c ((f1.at (by decide)).trans hn)).to ?_⟩
    rintro _ m' ⟨eq, rfl⟩
    obtain rfl := eq.symm
    by_cases hs : 0 ≤ v ∧ v ≤ nI n - 1
    · refine ⟨1, by rw [if_pos hs], fun c => absurd c (by decide), fun _ => hasM_ok.to ?_⟩
      rintro _ m' ⟨eq, rfl⟩
      obtain rfl := eq.symm
      by_cases hb : ((used >>> (v &&& 31)) &&& 1) = 1
      · exact ⟨1, by rw [if_pos hb], fun c => absurd c (by decide), fun _ => bad (fun q => q.2 hb)⟩
      · refine ⟨0, by rw [if_neg hb], fun _ => ?_, fun c => absurd rfl c⟩
        rw [if_pos ⟨hs, hb⟩] at hq2
        rw [hq2]
        exact ⟨rfl, h1, f1⟩
    · exact ⟨0, by rw [if_neg hs], fun _ => bad (fun q => hs q.1), fun c => absurd rfl c⟩
  · have hq2 : sdF tx e n used (p, w) = (v, (q, u)) := by rw [hq]; exact if_neg hu
    rw [hq2]
    exact ⟨0, by rw [if_neg hu], fun _ => ⟨rfl, h1, f1⟩, fun c => absurd rfl c⟩
/-- one game is read: the two sides and who throws it, the digits used then, the place -/
def oneG (tx : Nat → Int32) (e n : Nat) (used : Int32) (s : Sp) : (Int32 × Bool × Int32 × Bool) × Int32 × Sp :=
  let A := sdF tx e n used s
  let p1 := passF tx e 33 A.2
  let s1 : Sp := ((if p1 = true then A.2.1 + 1 else A.2.1), A.2.2)
  let u1 := used ||| ((1 : Int32) <<< (A.1 &&& 31))
  let s2 := needF tx e 45 s1
  let B := sdF tx e n u1 s2
  let p2 := passF tx e 33 B.2
  ((A.1, p1, B.1, p2), u1 ||| ((1 : Int32) <<< (B.1 &&& 31)), ((if p2 = true then B.2.1 + 1 else B.2.1), B.2.2))
def b12 (b c : Bool) : Int32 := (if b = true then 1 else 0) + (if c = true then 2 else 0)
/-- the plan's row with game g -/
def upG (np : Nat → Int32) (g r : Nat) (G : Int32 × Bool × Int32 × Bool) : Nat → Int32 := upd (upd (upd (upd np (4 * g) G.1) (4 * g + 1) G.2.2.1) (4 * g + 2) (b12 G.2.1 G.2.2.2)) (4 * g + 3) (nI r)
/-- games of one round -/
def gmF (tx : Nat → Int32) (e n r : Nat) : Nat → Int32 → Nat → (Nat → Int32) → Sp → Nat × (Nat → Int32) × Sp
  | 0, _, g, np, s => (g, np, s)
  | k + 1, used, g, np, s => if s.2 = -1 then
      (if (oneG tx e n used s).2.2.2 = -1 then
        (if passF tx e 44 (oneG tx e n used s).2.2 = true then gmF tx e n r k (oneG tx e n used s).2.1 (g + 1) (upG np g r (oneG tx e n used s).1) ((oneG tx e n used s).2.2.1 + 1, (oneG tx e n used s).2.2.2) else (g + 1, upG np g r (oneG tx e n used s).1, (oneG tx e n used s).2.2))
       else (g, np, (oneG tx e n used s).2.2))
    else (g, np, s)
def rdF (tx : Nat → Int32) (e n : Nat) : Nat → Nat → Nat → (Nat → Int32) → Sp → Nat × Nat × (Nat → Int32) × Sp
  | 0, r, g, np, s => (r, g, np, s)
  | k + 1, r, g, np, s => if s.2 = -1 then
      let s1 := if r = 12 then fltF (nI s.1) s else s
      let G := gmF tx e n r 81 0 g np s1
      if passF tx e 59 G.2.2 = true then rdF tx e n k (r + 1) G.1 G.2.1 (G.2.2.1 + 1, G.2.2.2) else (r + 1, G.1, G.2.1, G.2.2)
    else (r, g, np, s)
theorem sd_2 {n : Nat} (hn : n ≤ 8) {used : Int32} {s : Sp} (hs : s.1 < 1000) (h : (sdF tx e n used s).2.2 = -1) : s.2 = -1 ∧ (sdF tx e n used s).2 = (s.1 + 1, s.2) ∧ (0 : Int) ≤ (sdF tx e n used s).1.toInt ∧ (sdF tx e n used s).1.toInt < n ∧ (sdF tx e n used s).1 = hrF tx e s.1 - 48 ∧ ¬ ((used >>> ((sdF tx e n used s).1 &&& 31)) &&& 1) = 1 := by
  have hq : sdF tx e n used s = if (digF tx e 0 9 s).2.2 = -1 then (if (0 ≤ (digF tx e 0 9 s).1 ∧ (digF tx e 0 9 s).1 ≤ nI n - 1) ∧ ¬ ((used >>> ((digF tx e 0 9 s).1 &&& 31)) &&& 1) = 1 then digF tx e 0 9 s else ((digF tx e 0 9 s).1, fltF (nI (digF tx e 0 9 s).2.1 - 1) (digF tx e 0 9 s).2)) else digF tx e 0 9 s := rfl
  by_cases hd : (digF tx e 0 9 s).2.2 = -1
  · obtain ⟨d1, d2, d3, d4⟩ := dig_2 (by omega) hd
    rw [if_pos hd] at hq
    by_cases hc : (0 ≤ (digF tx e 0 9 s).1 ∧ (digF tx e 0 9 s).1 ≤ nI n - 1) ∧ ¬ ((used >>> ((digF tx e 0 9 s).1 &&& 31)) &&& 1) = 1
    · rw [if_pos hc] at hq
      rw [hq]
      have q1 := z_le hc.1.1
      have q2 := z_le hc.1.2
      have z0 : (0 : Int32).toInt = 0 := rfl
      have z1 : (1 : Int32).toInt = 1 := rfl
      have z2 : (nI n).toInt = n := nI_toInt (by omega)
      have z3 := ti_sub (x := nI n) (y := 1) (by omega)
      refine ⟨d1, by rw [d2], by omega, by omega, by rw [d2], hc.2⟩
    · rw [if_neg hc] at hq
      rw [hq] at h
      refine absurd h (flt_no (fun q => ?_))
      rw [d2] at q
      have e2 : nI (s.1 + 1) - 1 = nI s.1 := by rw [← nI_1]; exact Int32.add_sub_cancel _ _
      have q' : nI (s.1 + 1) - 1 = -1 := q
      rw [e2] at q'
      exact m1_ne s.1 (by omega) q'.symm
  · rw [if_neg hd] at hq
    rw [hq] at h
    exact absurd h hd
theorem sd_1 {n : Nat} {used : Int32} {s : Sp} : s.1 ≤ (sdF tx e n used s).2.1 := by
  have hq : sdF tx e n used s = if (digF tx e 0 9 s).2.2 = -1 then (if (0 ≤ (digF tx e 0 9 s).1 ∧ (digF tx e 0 9 s).1 ≤ nI n - 1) ∧ ¬ ((used >>> ((digF tx e 0 9 s).1 &&& 31)) &&& 1) = 1 then digF tx e 0 9 s else ((digF tx e 0 9 s).1, fltF (nI (digF tx e 0 9 s).2.1 - 1) (digF tx e 0 9 s).2)) else digF tx e 0 9 s := rfl
  rw [hq]
  have h1 := dig_1 (tx := tx) (e := e) (lo := 0) (hi := 9) (s := s)
  by_cases hd : (digF tx e 0 9 s).2.2 = -1
  · rw [if_pos hd]
    by_cases hc : (0 ≤ (digF tx e 0 9 s).1 ∧ (digF tx e 0 9 s).1 ≤ nI n - 1) ∧ ¬ ((used >>> ((digF tx e 0 9 s).1 &&& 31)) &&& 1) = 1
    · rw [if_pos hc]; exact h1
    · rw [if_neg hc, flt_1]; exact h1
  · rw [if_neg hd]; exact h1
theorem need_2 {c : Int32} {s : Sp} (hs : s.1 < 2147483648) (h : (needF tx e c s).2 = -1) : s.2 = -1 ∧ passF tx e c s = true ∧ needF tx e c s = (s.1 + 1, s.2) := by
  unfold needF at h ⊢
  by_cases hp : passF tx e c s = true
  · rw [if_pos hp]
    exact ⟨(of_decide_eq_true hp).1, hp, rfl⟩
  · rw [if_neg hp] at h
    exact (flt_2 (p := s.1) (w := s.2) h hs).elim
theorem uI_row {m : Wm} {a k : Nat} {v : Int32} : (uI m a k v).1 a = upd (m.1 a) k v := by
  funext j
  show (if a = a ∧ j = k then v else m.1 a j) = if j = k then v else m.1 a j
  by_cases h : j = k
  · rw [if_pos ⟨rfl, h⟩, if_pos h]
  · rw [if_neg (fun q => h q.2), if_neg h]
theorem uI_cell {m : Wm} {a b k : Nat} {v : Int32} (h : b ≠ a) : (uI m a k v).1 b = m.1 b := by
  funext j
  exact if_neg (fun q => h q.1)
theorem PS.u {a' k : Nat} {v : Int32} (h : PS a sz tp e tx p w m) (h1 : a' ≠ 187) (h2 : a' ≠ a) : PS a sz tp e tx p w (uI m a' k v) := by
  obtain ⟨b1, b2, b3, b4, b5, b6, b7⟩ := h
  exact ⟨b1, (if_neg (fun q => h1 q.1.symm)).trans b2, (if_neg (fun q => h1 q.1.symm)).trans b3, (if_neg (fun q => h1 q.1.symm)).trans b4, (if_neg (fun q => h1 q.1.symm)).trans b5, b6, fun k hk => (if_neg (fun q => h2 q.1.symm)).trans (b7 k hk)⟩
theorem pass_c {c : Int32} {s : Sp} {x : Int32} (h : x = if passF tx e c s = true then 1 else 0) : (x = 0 → ¬ passF tx e c s = true) ∧ (¬ x = 0 → passF tx e c s = true) := bz_if h
theorem dig_u {lo hi : Int32} {s : Sp} : (digF tx e lo hi s).2.1 ≤ s.1 + 1 := by
  unfold digF
  by_cases hw : s.2 = -1
  · rw [if_pos hw]
    by_cases hc : 48 + lo ≤ hrF tx e s.1 ∧ hrF tx e s.1 ≤ 48 + hi
    · rw [if_pos hc]; exact Nat.le_refl _
    · rw [if_neg hc, flt_1]; exact Nat.le_succ _
  · rw [if_neg hw]; exact Nat.le_succ _
theorem sd_u {n : Nat} {used : Int32} {s : Sp} : (sdF tx e n used s).2.1 ≤ s.1 + 1 := by
  have hq : sdF tx e n used s = if (digF tx e 0 9 s).2.2 = -1 then (if (0 ≤ (digF tx e 0 9 s).1 ∧ (digF tx e 0 9 s).1 ≤ nI n - 1) ∧ ¬ ((used >>> ((digF tx e 0 9 s).1 &&& 31)) &&& 1) = 1 then digF tx e 0 9 s else ((digF tx e 0 9 s).1, fltF (nI (digF tx e 0 9 s).2.1 - 1) (digF tx e 0 9 s).2)) else digF tx e 0 9 s := rfl
  rw [hq]
  have h1 := dig_u (tx := tx) (e := e) (lo := 0) (hi := 9) (s := s)
  by_cases hd : (digF tx e 0 9 s).2.2 = -1
  · rw [if_pos hd]
    by_cases hc : (0 ≤ (digF tx e 0 9 s).1 ∧ (digF tx e 0 9 s).1 ≤ nI n - 1) ∧ ¬ ((used >>> ((digF tx e 0 9 s).1 &&& 31)) &&& 1) = 1
    · rw [if_pos hc]; exact h1
    · rw [if_neg hc, flt_1]; exact h1
  · rw [if_neg hd]; exact h1
theorem need_u {c : Int32} {s : Sp} : (needF tx e c s).1 ≤ s.1 + 1 := by
  unfold needF
  by_cases h : passF tx e c s = true
  · rw [if_pos h]; exact Nat.le_refl _
  · rw [if_neg h, flt_1]; exact Nat.le_succ _
theorem ps_1 {b : Bool} {q : Nat} : q ≤ (if b = true then q + 1 else q) ∧ (if b = true then q + 1 else q) ≤ q + 1 := by
  cases b with
  | true => exact ⟨Nat.le_succ _, Nat.le_refl _⟩
  | false => exact ⟨Nat.le_refl _, Nat.le_succ _⟩
theorem oneG_2 {n : Nat} (hn : n ≤ 8) {used : Int32} {s : Sp} (hs : s.1 ≤ 80) (h : (oneG tx e n used s).2.2.2 = -1) : s.2 = -1 ∧ ((0 : Int) ≤ (oneG tx e n used s).1.1.toInt ∧ (oneG tx e n used s).1.1.toInt < n) ∧ ((0 : Int) ≤ (oneG tx e n used s).1.2.2.1.toInt ∧ (oneG tx e n used s).1.2.2.1.toInt < n) ∧ s.1 + 3 ≤ (oneG tx e n used s).2.2.1 := by
  dsimp only [oneG] at h ⊢
  have sA := sd_u (tx := tx) (e := e) (n := n) (used := used) (s := s)
  have fA := sd_2 (tx := tx) (e := e) hn (used := used) (s := s) (by omega)
  generalize sdF tx e n used s = A at h sA fA ⊢
  obtain ⟨a1, q, u⟩ := A
  dsimp only at h sA fA ⊢
  generalize passF tx e 33 (q, u) = P1 at h ⊢
  have s1b := ps_1 (b := P1) (q := q)
  generalize (if P1 = true then q + 1 else q) = q1 at h s1b ⊢
  have s2b := need_u (tx := tx) (e := e) (c := 45) (s := (q1, u))
  have s2f := need_2 (tx := tx) (e := e) (c := 45) (s := (q1, u)) (by show q1 < _; omega)
  generalize needF tx e 45 (q1, u) = s2 at h s2b s2f ⊢
  dsimp only at s2b s2f
  have fB := sd_2 (tx := tx) (e := e) hn (used := used ||| ((1 : Int32) <<< (a1 &&& 31))) (s := s2) (by omega)
  generalize sdF tx e n (used ||| ((1 : Int32) <<< (a1 &&& 31))) s2 = B at h fB ⊢
  obtain ⟨b1, q2, u2⟩ := B
  dsimp only at h fB ⊢
  generalize passF tx e 33 (q2, u2) = P2 at h ⊢
  have s3b := ps_1 (b := P2) (q := q2)
  obtain ⟨b2, b3, b4, b5, -, -⟩ := fB h
  obtain ⟨c1, -, c3⟩ := s2f b2
  obtain ⟨d2, d3, d4, d5, -, -⟩ := fA c1
  have e1 : q2 = s2.1 + 1 := congrArg Prod.fst b3
  have e2 : s2.1 = q1 + 1 := congrArg Prod.fst c3
  have e3 : q = s.1 + 1 := congrArg Prod.fst d3
  exact ⟨d2, ⟨d4, d5⟩, ⟨b4, b5⟩, by omega⟩
theorem upG_w {m : Wm} {g r : Nat} {G : Int32 × Bool × Int32 × Bool} (w : WT m) (hg : g < 40) (h1 : (0 : Int) ≤ G.1.toInt ∧ G.1.toInt ≤ 7) (h2 : (0 : Int) ≤ G.2.2.1.toInt ∧ G.2.2.1.toInt ≤ 7) :
    WT (uI (uI (uI (uI m 199 (4 * g) G.1) 199 (4 * g + 1) G.2.2.1) 199 (4 * g + 2) (b12 G.2.1 G.2.2.2)) 199 (4 * g + 3) (nI r)) := by
  have t : ∀ j, j < 4 → TY 199 (4 * g + j) = if j < 2 then some (0, 7) else none := fun j hj => by
    have : TY 199 (4 * g + j) = if (4 * g + j) % 4 < 2 then some (0, 7) else none := rfl
    rw [this, show (4 * g + j) % 4 = j by omega]
  have t0 := t 0 (by decide)
  exact (((w.t (t 0 (by decide)) h1.1 h1.2).t (t 1 (by decide)) h2.1 h2.2).n (t 2 (by decide))).n (t 3 (by decide))
theorem gm_ok (A : PA a na sz tp e) {n r : Nat} (hn : n ≤ 8) (hr : r < 1000) (ha : a ≠ 199) {m0 : Wm} {Q : Option Value → Wm → Prop} (hm0 : m0.1 187 1 = nI n) :
    ∀ (k : Nat) (used : Int32) (g : Nat) (np : Nat → Int32) (p : Nat) (w : Int32) (m : Wm), e - p < k → (w = -1 → 4 * g ≤ p) → g ≤ 40 → PS a sz tp e tx p w m → m.1 199 = np → Fx (RS [22, 27]) m0 m → WT m →
    (∀ m' g' np' p' w', gmF tx e n r k used g np (p, w) = (g', np', (p', w')) → PS a sz tp e tx p' w' m' → m'.1 199 = np' → Fx (RS [22, 27]) m0 m' → WT m' → (w' = -1 → 4 * g' ≤ p' + 1 ∧ 1 ≤ g') → g' ≤ 40 →
      Ct ad μX12_passes (d + 4) [.ref (ad 187), .int 59] m' (fun r' m1 => ∃ v2 : Int32, r' = some (.int v2) ∧ AW ad E0 μX12_plan (d + 4 + 1) Q 41 [(0, .ref (ad 187)), (1, .int (nI r + 1)), (2, .int (nI g')), (3, .int v2)] [] m1)) →
    AW ad E0 μX12_plan (d + 4 + 1) Q 72 [(0, .ref (ad 187)), (1, .int (nI r)), (2, .int (nI g)), (4, .int used), (5, .int 1)] [] m := by
  intro k
  induction k with
  | zero => intros; omega
  | succ k ih =>
    intro used g np p w m hk hg hg4 h hnp f wt K
    have hpe : p ≤ e := h.2.2.2.2.2.1
    have h80 := h.small A
    refine g_X12_plan_72 ⟨fun c => absurd c (by decide), fun _ => (fine_ok h).to ?_⟩
    rintro _ m' ⟨eq, rfl⟩
    obtain rfl := eq.symm
    by_cases hw : w = -1
    · subst hw
      refine ⟨1, rfl, fun c => absurd c (by decide), fun _ => ?_⟩
      obtain ⟨A1, hA⟩ : ∃ A1, sdF tx e n used (p, -1) = A1 := ⟨_, rfl⟩
      obtain ⟨a1, q1, u1⟩ := A1
      obtain ⟨P1, hP1⟩ : ∃ P1, passF tx e 33 (q1, u1) = P1 := ⟨_, rfl⟩
      obtain ⟨q2, hq2⟩ : ∃ q2, (if P1 = true then q1 + 1 else q1) = q2 := ⟨_, rfl⟩
      obtain ⟨S2, hS2⟩ : ∃ S2, needF tx e 45 (q2, u1) = S2 := ⟨_, rfl⟩
      obtain ⟨q3, u3⟩ := S2
      obtain ⟨B1, hB⟩ : ∃ B1, sdF tx e n (used ||| ((1 : Int32) <<< (a1 &&& 31))) (q3, u3) = B1 := ⟨_, rfl⟩
      obtain ⟨b1, q4, u4⟩ := B1
      obtain ⟨P2, hP2⟩ : ∃ P2, passF tx e 33 (q4, u4) = P2 := ⟨_, rfl⟩
      obtain ⟨q5, hq5⟩ : ∃ q5, (if P2 = true then q4 + 1 else q4) = q5 := ⟨_, rfl⟩
      obtain ⟨u2, hu2⟩ : ∃ u2, (used ||| ((1 : Int32) <<< (a1 &&& 31))) ||| ((1 : Int32) <<< (b1 &&& 31)) = u2 := ⟨_, rfl⟩
      have hG : oneG tx e n used (p, -1) = ((a1, P1, b1, P2), u2, (q5, u4)) := by
        unfold oneG
        rw [hA]
        dsimp only
        rw [hP1, hq2, hS2, hB]
        dsimp only
        rw [hP2, hq5, hu2]
      have ex : gmF tx e n r (k + 1) used g np (p, -1) = if u4 = -1 then
        (if passF tx e 44 (q5, u4) = true then gmF tx e n r k u2 (g + 1) (upG np g r (a1, P1, b1, P2)) (q5 + 1, u4) else (g + 1, upG np g r (a1, P1, b1, P2), (q5, u4)))
        else (g, np, (q5, u4)) := by
        have ex0 : gmF tx e n r (k + 1) used g np (p, -1) = if (oneG tx e n used (p, -1)).2.2.2 = -1 then
          (if passF tx e 44 (oneG tx e n used (p, -1)).2.2 = true then gmF tx e n r k (oneG tx e n used (p, -1)).2.1 (g + 1) (upG np g r (oneG tx e n used (p, -1)).1) ((oneG tx e n used (p, -1)).2.2.1 + 1, (oneG tx e n used (p, -1)).2.2.2) else (g + 1, upG np g r (oneG tx e n used (p, -1)).1, (oneG tx e n used (p, -1)).2.2))
          else (g, np, (oneG tx e n used (p, -1)).2.2) := if_pos rfl
        rw [hG] at ex0
        exact ex0
      rw [ex] at K
      have g2 := oneG_2 (tx := tx) (e := e) hn (used := used) (s := (p, -1)) h80
      rw [hG] at g2
      dsimp only at g2
      refine (side_ok A h (n := n) ((f.at (by decide)).trans hm0)).to ?_
      rintro _ m7 ⟨rfl, h7, f7⟩
      rw [hA] at h7 ⊢
      dsimp only at h7 ⊢
      refine ⟨_, rfl, (passes_ok A h7 (by decide)).to ?_⟩
      rintro _ m9 ⟨rfl, h9, f9⟩
      rw [hP1] at h9 ⊢
      rw [hq2] at h9
      refine ⟨_, rfl, (need_ok A h9 (by decide)).to ?_⟩
      rintro _ m11 ⟨rfl, h11, f11⟩
      rw [hS2] at h11
      dsimp only at h11
      have f11' : Fx (RS [22]) m m11 := (f7.tr f9 (RS_sub rfl)).tr f11 (RS_sub rfl)
      refine ⟨rfl, (side_ok A h11 (n := n) ((f11'.at (by decide)).trans ((f.at (by decide)).trans hm0))).to ?_⟩
      rintro _ m12 ⟨rfl, h12, f12⟩
      rw [hB] at h12 ⊢
      dsimp only at h12 ⊢
      refine ⟨_, rfl, (passes_ok A h12 (by decide)).to ?_⟩
      rintro _ m14 ⟨rfl, h14, f14⟩
      rw [hP2] at h14 ⊢
      rw [hq5] at h14
      have f14' : Fx (RS [22]) m m14 := (f11'.tr f12 (RS_sub rfl)).tr f14 (RS_sub rfl)
      have c199 : m14.1 199 = np := (fx_cell (ρ := 27) f14' (fun _ => rfl) rfl).trans hnp
      have F14 : Fx (RS [22, 27]) m0 m14 := f.tr f14' (RS_sub rfl)
      have w14 := wt.fx f14'
      refine ⟨_, rfl, (fine_ok h14).to ?_⟩
      rintro _ m' ⟨eq, rfl⟩
      obtain rfl := eq.symm
      rw [hu2]
      have h5e : q5 ≤ e := h14.2.2.2.2.2.1
      by_cases hu4 : u4 = -1
      · subst hu4
        rw [if_pos rfl] at K
        obtain ⟨-, ⟨ga, gb⟩, ⟨gc, gd⟩, gl⟩ := g2 rfl
        have hg' := hg rfl
        have l4 : (4 : Int32) * nI g = nI (4 * g) := l_mul 4 4 rfl g
        refine ⟨1, rfl, fun c => absurd c (by decide), fun _ => ?_⟩
        rw [l4, nI_1, add_l 2 2 rfl]
        have e80 : e ≤ 80 := by have := A.2.2.2.1; have := A.2.2.2.2.1; omega
        have st : ∀ x1 x2 : Int32, x1 = (if P1 = true then 1 else 0) → x2 = (if P2 = true then 2 else 0) → AW ad E0 μX12_plan (d + 4 + 1) Q 198 [(0, .ref (ad 187)), (1, .int (nI r)), (2, .int (nI g)), (4, .int u2)] [.int x2, .int x1, .int (nI (4 * g + 2)), .ref (ad 199)] (uI (uI m14 199 (nI (4 * g)).toNatClampNeg a1) 199 (nI (4 * g + 1)).toNatClampNeg b1) := by
          rintro x1 x2 rfl rfl
          refine g_X12_plan_198 (ne3 := 160) rfl ?_
          rw [l4, add_l 3 3 rfl, nI_clamp (by omega), nI_clamp (by omega), nI_clamp (by omega), nI_clamp (by omega)]
          have hb : (if P1 = true then (1 : Int32) else 0) + (if P2 = true then (2 : Int32) else 0) = b12 P1 P2 := rfl
          rw [hb]
          have wU : WT (uI (uI (uI (uI m14 199 (4 * g) a1) 199 (4 * g + 1) b1) 199 (4 * g + 2) (b12 P1 P2)) 199 (4 * g + 3) (nI r)) := upG_w (G := (a1, P1, b1, P2)) w14 (by omega) ⟨ga, by show a1.toInt ≤ 7; omega⟩ ⟨gc, by show b1.toInt ≤ 7; omega⟩
          have fU : Fx (RS [22, 27]) m0 (uI (uI (uI (uI m14 199 (4 * g) a1) 199 (4 * g + 1) b1) 199 (4 * g + 2) (b12 P1 P2)) 199 (4 * g + 3) (nI r)) := (((F14.i rfl).i rfl).i rfl).i rfl
          have cU : (uI (uI (uI (uI m14 199 (4 * g) a1) 199 (4 * g + 1) b1) 199 (4 * g + 2) (b12 P1 P2)) 199 (4 * g + 3) (nI r)).1 199 = upG np g r (a1, P1, b1, P2) := by
            rw [uI_row, uI_row, uI_row, uI_row, c199]
            rfl
          have pU : PS a sz tp e tx q5 (-1) (uI (uI (uI (uI m14 199 (4 * g) a1) 199 (4 * g + 1) b1) 199 (4 * g + 2) (b12 P1 P2)) 199 (4 * g + 3) (nI r)) := (((h14.u (by decide) (Ne.symm ha)).u (by decide) (Ne.symm ha)).u (by decide) (Ne.symm ha)).u (by decide) (Ne.symm ha)
          generalize uI (uI (uI (uI m14 199 (4 * g) a1) 199 (4 * g + 1) b1) 199 (4 * g + 2) (b12 P1 P2)) 199 (4 * g + 3) (nI r) = mU at wU fU cU pU ⊢
          refine ⟨nat_in (by omega) (by decide), nat_in (by omega) (by decide), (passes_ok A pU (by decide)).to ?_⟩
          rintro _ m2 ⟨rfl, h2, f2⟩
          have c2 : m2.1 199 = upG np g r (a1, P1, b1, P2) := (fx_cell (ρ := 27) f2 (fun _ => rfl) rfl).trans cU
          by_cases h44 : passF tx e 44 (q5, -1) = true
          · rw [if_pos h44] at h2 K ⊢
            have hq : q5 < e := pass_lt h44 (by decide)
            refine ⟨1, rfl, ?_⟩
            rw [nI_1]
            exact ih u2 (g + 1) _ (q5 + 1) (-1) m2 (by omega) (fun _ => by omega) (by omega) h2 c2 (fU.tr f2 (RS_sub rfl)) (wU.fx f2) K
          · rw [if_neg h44] at h2 K ⊢
            refine ⟨0, rfl, ?_⟩
            rw [nI_1]
            exact g_X12_plan_72 ⟨fun _ => K m2 (g + 1) _ q5 (-1) rfl h2 c2 (fU.tr f2 (RS_sub rfl)) (wU.fx f2) (fun _ => ⟨by omega, by omega⟩) (by omega), fun c => absurd rfl c⟩
        refine ⟨nat_in (by omega) (by decide), nat_in (by omega) (by decide), fun c => ⟨fun c' => ?_, fun c' => ?_⟩, fun c => ⟨fun c' => ?_, fun c' => ?_⟩⟩
        · exact st 0 0 (by rw [if_neg ((bz_if rfl).1 c)]) (by rw [if_neg ((bz_if rfl).1 c')])
        · exact st 0 2 (by rw [if_neg ((bz_if rfl).1 c)]) (by rw [if_pos ((bz_if rfl).2 c')])
        · exact st 1 0 (by rw [if_pos ((bz_if rfl).2 c)]) (by rw [if_neg ((bz_if rfl).1 c')])
        · exact st 1 2 (by rw [if_pos ((bz_if rfl).2 c)]) (by rw [if_pos ((bz_if rfl).2 c')])
      · rw [if_neg hu4] at K
        refine ⟨0, by rw [if_neg hu4], fun _ => (passes_ok A h14 (by decide)).to ?_, fun c => absurd rfl c⟩
        rintro _ m2 ⟨rfl, h2, f2⟩
        have h44 : ¬ passF tx e 44 (q5, u4) = true := fun q => hu4 (of_decide_eq_true q).1
        rw [if_neg h44] at h2 ⊢
        exact ⟨0, rfl, g_X12_plan_72 ⟨fun _ => K m2 g np q5 u4 rfl h2 ((fx_cell (ρ := 27) f2 (fun _ => rfl) rfl).trans c199) (F14.tr f2 (RS_sub rfl)) (w14.fx f2) (fun q => absurd q hu4) hg4, fun c => absurd rfl c⟩⟩
    · have ex : gmF tx e n r (k + 1) used g np (p, w) = (g, np, (p, w)) := if_neg hw
      rw [ex] at K
      exact ⟨0, by rw [if_neg hw], fun _ => K m g np p w rfl h hnp f wt (fun q => absurd q hw) hg4, fun c => absurd rfl c⟩
end TXT
end
section
/-! the model's layouts of its league keep types and regions; what they change -/
section LB
variable {ad : Nat → Nat} {d : Nat} {m : Wm}
theorem WT.same {m m' : Wm} (h : WT m) (h1 : ∀ a k, TY a k ≠ none → m'.1 a k = m.1 a k) (h2 : m'.2.2 = m.2.2) : WT m' := by
  refine ⟨fun a k lo hi e => ?_, by rw [h2]; exact h.2⟩
  rw [h1 a k (by rw [e]; exact fun q => by cases q)]
  exact h.1 a k lo hi e
theorem s_lay {a na reg : Nat} {x2 : Int32} (ha : LAY[a]? = some (.inr (0, na))) (hn : ∀ b ∈ [187, 188, 190, 191, 192], b ≠ a) (hb : na < 100000) (hty : ∀ k, TY a k = none) (hrg : ∀ k, RS [reg] a k) (w : WT m) (i1 : (0 : Int) ≤ x2.toInt) (i2 : x2.toInt + 57 ≤ (na : Int)) : Ct ad μX12_lay d [.ref (ad 187), .ref (ad a), .int x2] m (fun r m' => WT m' ∧ Fx (RS [reg]) m m' ∧ r = none) := by
  obtain ⟨s, hs, rfl⟩ := zn_of i1
  rw [nI_toInt hs] at i2
  refine (layC ha hn (by omega) hb).to ?_
  rintro _ m' ⟨rfl, e⟩
  obtain rfl := e
  refine ⟨w.same (fun b k h => layM_at (fun q => h (by rw [q]; exact hty k))) rfl, fun b k h => ⟨layM_at (fun q => h (by rw [q]; exact hrg k)), rfl, rfl⟩, rfl⟩
theorem tgt_rg : ∀ i : Fin 57, TY (tgt i.val).1 (tgt i.val).2 = none ∧ RS [24, 49] (tgt i.val).1 (tgt i.val).2 := by decide +kernel
theorem RS_of {a k ρ : Nat} (h : rg a k = ρ) : RS [ρ] a k := by subst h; unfold RS; simp
theorem s_bring {a na : Nat} {x2 : Int32} (ha : LAY[a]? = some (.inr (0, na))) (hn : ∀ b ∈ [187, 188, 190, 191, 192], b ≠ a) (hb : na < 100000) (w : WT m) (i1 : (0 : Int) ≤ x2.toInt) (i2 : x2.toInt + 57 ≤ (na : Int)) : Ct ad μX12_bring d [.ref (ad 187), .ref (ad a), .int x2] m (fun r m' => WT m' ∧ Fx (RS [24, 49]) m m' ∧ r = none) := by
  obtain ⟨s, hs, rfl⟩ := zn_of i1
  rw [nI_toInt hs] at i2
  refine (bringC ha hn (by omega) hb).to ?_
  rintro _ m' ⟨rfl, e⟩
  obtain rfl := e
  refine ⟨w.same (fun b k h => brM_out (fun i q => h ?_) (Nat.le_refl _)) (congrArg Prod.snd (brM_2 57)), fun b k h => ⟨brM_out (fun i q => h ?_) (Nat.le_refl _), ?_, ?_⟩, rfl⟩
  · have := (tgt_rg i).1; rw [q] at this; exact this
  · have := (tgt_rg i).2; rw [q] at this; exact this
  · rw [brM_2 57]
  · rw [brM_2 57]
theorem s_X12_lay_201 {x2 : Int32} (w : WT m) (i1 : (0 : Int) ≤ x2.toInt) (i2 : x2.toInt ≤ (1083 : Int)) : Ct ad μX12_lay d [.ref (ad 187), .ref (ad 201), .int x2] m (fun r m' => WT m' ∧ Fx (RS [29]) m m' ∧ r = none ∧ ((m'.1 187 30).toInt = (m.1 187 30).toInt)) := by
  obtain ⟨s, hs, rfl⟩ := zn_of i1
  rw [nI_toInt hs] at i2
  refine (layC (na := 1140) rfl (by decide) (by omega) (by decide)).to ?_
  rintro _ m' ⟨rfl, e⟩
  obtain rfl := e
  refine ⟨w.same (fun b k h => layM_at (fun q => h (by rw [q]; rfl))) rfl, fun b k h => ⟨layM_at (fun q => h (by rw [q]; rfl)), rfl, rfl⟩, rfl, ?_⟩
  rw [layM_at (by decide)]
theorem s_X12_bring_201 {x2 : Int32} (w : WT m) (i1 : (0 : Int) ≤ x2.toInt) (i2 : x2.toInt ≤ (1083 : Int)) : Ct ad μX12_bring d [.ref (ad 187), .ref (ad 201), .int x2] m (fun r m' => WT m' ∧ Fx (RS [24, 49]) m m' ∧ r = none) := s_bring (na := 1140) rfl (by decide) (by decide) w i1 (by omega)
theorem s_X12_lay_202 {x2 : Int32} (w : WT m) (i1 : (0 : Int) ≤ x2.toInt) (i2 : x2.toInt ≤ (0 : Int)) : Ct ad μX12_lay d [.ref (ad 187), .ref (ad 202), .int x2] m (fun r m' => WT m' ∧ Fx (RS [30]) m m' ∧ r = none) := s_lay (na := 57) rfl (by decide) (by decide) (fun _ => rfl) (fun _ => rfl) w i1 (by omega)
theorem s_X12_bring_202 {x2 : Int32} (w : WT m) (i1 : (0 : Int) ≤ x2.toInt) (i2 : x2.toInt ≤ (0 : Int)) : Ct ad μX12_bring d [.ref (ad 187), .ref (ad 202), .int x2] m (fun r m' => WT m' ∧ Fx (RS [24, 49]) m m' ∧ r = none) := s_bring (na := 57) rfl (by decide) (by decide) w i1 (by omega)
theorem s_X12_lay_204 {x2 : Int32} (w : WT m) (i1 : (0 : Int) ≤ x2.toInt) (i2 : x2.toInt ≤ (0 : Int)) : Ct ad μX12_lay d [.ref (ad 187), .ref (ad 204), .int x2] m (fun r m' => WT m' ∧ Fx (RS [34]) m m' ∧ r = none) := s_lay (na := 57) rfl (by decide) (by decide) (fun _ => rfl) (fun _ => rfl) w i1 (by omega)
theorem s_X12_bring_204 {x2 : Int32} (w : WT m) (i1 : (0 : Int) ≤ x2.toInt) (i2 : x2.toInt ≤ (0 : Int)) : Ct ad μX12_bring d [.ref (ad 187), .ref (ad 204), .int x2] m (fun r m' => WT m' ∧ Fx (RS [24, 49]) m m' ∧ r = none) := s_bring (na := 57) rfl (by decide) (by decide) w i1 (by omega)
theorem s_X12_lay_211 {x2 : Int32} (w : WT m) (i1 : (0 : Int) ≤ x2.toInt) (i2 : x2.toInt ≤ (342 : Int)) : Ct ad μX12_lay d [.ref (ad 187), .ref (ad 211), .int x2] m (fun r m' => WT m' ∧ Fx (RS [36]) m m' ∧ r = none) := s_lay (na := 399) rfl (by decide) (by decide) (fun _ => rfl) (fun _ => rfl) w i1 (by omega)
theorem s_X12_bring_211 {x2 : Int32} (w : WT m) (i1 : (0 : Int) ≤ x2.toInt) (i2 : x2.toInt ≤ (342 : Int)) : Ct ad μX12_bring d [.ref (ad 187), .ref (ad 211), .int x2] m (fun r m' => WT m' ∧ Fx (RS [24, 49]) m m' ∧ r = none) := s_bring (na := 399) rfl (by decide) (by decide) w i1 (by omega)
theorem s_X12_lay_214 {x2 : Int32} (w : WT m) (i1 : (0 : Int) ≤ x2.toInt) (i2 : x2.toInt ≤ (71 : Int)) : Ct ad μX12_lay d [.ref (ad 187), .ref (ad 214), .int x2] m (fun r m' => WT m' ∧ Fx (RS [40]) m m' ∧ r = none) := s_lay (na := 142) rfl (by decide) (by decide) (fun _ => rfl) (fun _ => rfl) w i1 (by omega)
theorem s_X12_bring_214 {x2 : Int32} (w : WT m) (i1 : (0 : Int) ≤ x2.toInt) (i2 : x2.toInt ≤ (71 : Int)) : Ct ad μX12_bring d [.ref (ad 187), .ref (ad 214), .int x2] m (fun r m' => WT m' ∧ Fx (RS [24, 49]) m m' ∧ r = none) := s_bring (na := 142) rfl (by decide) (by decide) w i1 (by omega)
theorem ix_p40 {x : Int32} (hx : 0 ≤ x.toInt ∧ x.toInt ≤ 39) : ((4 : Int32) * x).toNatClampNeg % 4 = 0 := by
  have t1 := ti_mulc (c := 4) (y := 4) (x := x) rfl (by omega)
  have t2 := tn (x := (4 : Int32) * x) (by omega)
  omega
theorem WT.p40 (h : WT m) {x : Int32} (hx : 0 ≤ x.toInt ∧ x.toInt ≤ 39) : 0 ≤ (m.1 194 ((4 : Int32) * x).toNatClampNeg).toInt ∧ (m.1 194 ((4 : Int32) * x).toNatClampNeg).toInt ≤ 7 := h.at (by show (if _ % 4 < 2 then _ else _) = _; rw [ix_p40 hx]; rfl)
theorem WT.up0 (h : WT m) {x v : Int32} (hx : 0 ≤ x.toInt ∧ x.toInt ≤ 39) (hv : 0 ≤ v.toInt ∧ v.toInt ≤ 7) : WT (uI m 194 ((4 : Int32) * x).toNatClampNeg v) := h.t (lo := 0) (hi := 7) (by show (if _ % 4 < 2 then _ else _) = _; rw [ix_p40 hx]; rfl) hv.1 hv.2
theorem ix_p41 {x : Int32} (hx : 0 ≤ x.toInt ∧ x.toInt ≤ 39) : (((4 : Int32) * x) + (1 : Int32)).toNatClampNeg % 4 = 1 := by
  have t0 := ti_mulc (c := 4) (y := 4) (x := x) rfl (by omega)
  have t1 := ti_addc (x := (4 : Int32) * x) (y := 1) (c := 1) rfl (by omega)
  have t2 := tn (x := (4 : Int32) * x + 1) (by omega)
  omega
theorem WT.p41 (h : WT m) {x : Int32} (hx : 0 ≤ x.toInt ∧ x.toInt ≤ 39) : 0 ≤ (m.1 194 (((4 : Int32) * x) + (1 : Int32)).toNatClampNeg).toInt ∧ (m.1 194 (((4 : Int32) * x) + (1 : Int32)).toNatClampNeg).toInt ≤ 7 := h.at (by show (if _ % 4 < 2 then _ else _) = _; rw [ix_p41 hx]; rfl)
theorem WT.up1 (h : WT m) {x v : Int32} (hx : 0 ≤ x.toInt ∧ x.toInt ≤ 39) (hv : 0 ≤ v.toInt ∧ v.toInt ≤ 7) : WT (uI m 194 (((4 : Int32) * x) + (1 : Int32)).toNatClampNeg v) := h.t (lo := 0) (hi := 7) (by show (if _ % 4 < 2 then _ else _) = _; rw [ix_p41 hx]; rfl) hv.1 hv.2
theorem ix_p42 {x : Int32} (hx : 0 ≤ x.toInt ∧ x.toInt ≤ 39) : (((4 : Int32) * x) + (2 : Int32)).toNatClampNeg % 4 = 2 := by
  have t0 := ti_mulc (c := 4) (y := 4) (x := x) rfl (by omega)
  have t1 := ti_addc (x := (4 : Int32) * x) (y := 2) (c := 2) rfl (by omega)
  have t2 := tn (x := (4 : Int32) * x + 2) (by omega)
  omega
theorem WT.up2 (h : WT m) {x v : Int32} (hx : 0 ≤ x.toInt ∧ x.toInt ≤ 39) : WT (uI m 194 (((4 : Int32) * x) + (2 : Int32)).toNatClampNeg v) := h.n (by show (if _ % 4 < 2 then _ else _) = _; rw [ix_p42 hx]; rfl)
theorem ix_p43 {x : Int32} (hx : 0 ≤ x.toInt ∧ x.toInt ≤ 39) : (((4 : Int32) * x) + (3 : Int32)).toNatClampNeg % 4 = 3 := by
  have t0 := ti_mulc (c := 4) (y := 4) (x := x) rfl (by omega)
  have t1 := ti_addc (x := (4 : Int32) * x) (y := 3) (c := 3) rfl (by omega)
  have t2 := tn (x := (4 : Int32) * x + 3) (by omega)
  omega
theorem WT.up3 (h : WT m) {x v : Int32} (hx : 0 ≤ x.toInt ∧ x.toInt ≤ 39) : WT (uI m 194 (((4 : Int32) * x) + (3 : Int32)).toNatClampNeg v) := h.n (by show (if _ % 4 < 2 then _ else _) = _; rw [ix_p43 hx]; rfl)
theorem ix_q40 {x : Int32} (hx : 0 ≤ x.toInt ∧ x.toInt ≤ 39) : ((4 : Int32) * x).toNatClampNeg % 4 = 0 := by
  have t1 := ti_mulc (c := 4) (y := 4) (x := x) rfl (by omega)
  have t2 := tn (x := (4 : Int32) * x) (by omega)
  omega
theorem WT.q40 (h : WT m) {x : Int32} (hx : 0 ≤ x.toInt ∧ x.toInt ≤ 39) : 0 ≤ (m.1 199 ((4 : Int32) * x).toNatClampNeg).toInt ∧ (m.1 199 ((4 : Int32) * x).toNatClampNeg).toInt ≤ 7 := h.at (by show (if _ % 4 < 2 then _ else _) = _; rw [ix_q40 hx]; rfl)
theorem WT.uq0 (h : WT m) {x v : Int32} (hx : 0 ≤ x.toInt ∧ x.toInt ≤ 39) (hv : 0 ≤ v.toInt ∧ v.toInt ≤ 7) : WT (uI m 199 ((4 : Int32) * x).toNatClampNeg v) := h.t (lo := 0) (hi := 7) (by show (if _ % 4 < 2 then _ else _) = _; rw [ix_q40 hx]; rfl) hv.1 hv.2
theorem ix_q41 {x : Int32} (hx : 0 ≤ x.toInt ∧ x.toInt ≤ 39) : (((4 : Int32) * x) + (1 : Int32)).toNatClampNeg % 4 = 1 := by
  have t0 := ti_mulc (c := 4) (y := 4) (x := x) rfl (by omega)
  have t1 := ti_addc (x := (4 : Int32) * x) (y := 1) (c := 1) rfl (by omega)
  have t2 := tn (x := (4 : Int32) * x + 1) (by omega)
  omega
theorem WT.q41 (h : WT m) {x : Int32} (hx : 0 ≤ x.toInt ∧ x.toInt ≤ 39) : 0 ≤ (m.1 199 (((4 : Int32) * x) + (1 : Int32)).toNatClampNeg).toInt ∧ (m.1 199 (((4 : Int32) * x) + (1 : Int32)).toNatClampNeg).toInt ≤ 7 := h.at (by show (if _ % 4 < 2 then _ else _) = _; rw [ix_q41 hx]; rfl)
theorem WT.uq1 (h : WT m) {x v : Int32} (hx : 0 ≤ x.toInt ∧ x.toInt ≤ 39) (hv : 0 ≤ v.toInt ∧ v.toInt ≤ 7) : WT (uI m 199 (((4 : Int32) * x) + (1 : Int32)).toNatClampNeg v) := h.t (lo := 0) (hi := 7) (by show (if _ % 4 < 2 then _ else _) = _; rw [ix_q41 hx]; rfl) hv.1 hv.2
theorem ix_q42 {x : Int32} (hx : 0 ≤ x.toInt ∧ x.toInt ≤ 39) : (((4 : Int32) * x) + (2 : Int32)).toNatClampNeg % 4 = 2 := by
  have t0 := ti_mulc (c := 4) (y := 4) (x := x) rfl (by omega)
  have t1 := ti_addc (x := (4 : Int32) * x) (y := 2) (c := 2) rfl (by omega)
  have t2 := tn (x := (4 : Int32) * x + 2) (by omega)
  omega
theorem WT.uq2 (h : WT m) {x v : Int32} (hx : 0 ≤ x.toInt ∧ x.toInt ≤ 39) : WT (uI m 199 (((4 : Int32) * x) + (2 : Int32)).toNatClampNeg v) := h.n (by show (if _ % 4 < 2 then _ else _) = _; rw [ix_q42 hx]; rfl)
theorem ix_q43 {x : Int32} (hx : 0 ≤ x.toInt ∧ x.toInt ≤ 39) : (((4 : Int32) * x) + (3 : Int32)).toNatClampNeg % 4 = 3 := by
  have t0 := ti_mulc (c := 4) (y := 4) (x := x) rfl (by omega)
  have t1 := ti_addc (x := (4 : Int32) * x) (y := 3) (c := 3) rfl (by omega)
  have t2 := tn (x := (4 : Int32) * x + 3) (by omega)
  omega
theorem WT.uq3 (h : WT m) {x v : Int32} (hx : 0 ≤ x.toInt ∧ x.toInt ≤ 39) : WT (uI m 199 (((4 : Int32) * x) + (3 : Int32)).toNatClampNeg v) := h.n (by show (if _ % 4 < 2 then _ else _) = _; rw [ix_q43 hx]; rfl)
theorem ix_s30 {x : Int32} (hx : 0 ≤ x.toInt ∧ x.toInt ≤ 11) : ((3 : Int32) * x).toNatClampNeg % 3 = 0 := by
  have t1 := ti_mulc (c := 3) (y := 3) (x := x) rfl (by omega)
  have t2 := tn (x := (3 : Int32) * x) (by omega)
  omega
theorem WT.s30 (h : WT m) {x : Int32} (hx : 0 ≤ x.toInt ∧ x.toInt ≤ 11) : 0 ≤ (m.1 213 ((3 : Int32) * x).toNatClampNeg).toInt ∧ (m.1 213 ((3 : Int32) * x).toNatClampNeg).toInt ≤ 7 := h.at (by show (if _ % 3 < 2 then _ else _) = _; rw [ix_s30 hx]; rfl)
theorem WT.us0 (h : WT m) {x v : Int32} (hx : 0 ≤ x.toInt ∧ x.toInt ≤ 11) (hv : 0 ≤ v.toInt ∧ v.toInt ≤ 7) : WT (uI m 213 ((3 : Int32) * x).toNatClampNeg v) := h.t (lo := 0) (hi := 7) (by show (if _ % 3 < 2 then _ else _) = _; rw [ix_s30 hx]; rfl) hv.1 hv.2
theorem ix_s31 {x : Int32} (hx : 0 ≤ x.toInt ∧ x.toInt ≤ 11) : (((3 : Int32) * x) + (1 : Int32)).toNatClampNeg % 3 = 1 := by
  have t0 := ti_mulc (c := 3) (y := 3) (x := x) rfl (by omega)
  have t1 := ti_addc (x := (3 : Int32) * x) (y := 1) (c := 1) rfl (by omega)
  have t2 := tn (x := (3 : Int32) * x + 1) (by omega)
  omega
theorem WT.s31 (h : WT m) {x : Int32} (hx : 0 ≤ x.toInt ∧ x.toInt ≤ 11) : 0 ≤ (m.1 213 (((3 : Int32) * x) + (1 : Int32)).toNatClampNeg).toInt ∧ (m.1 213 (((3 : Int32) * x) + (1 : Int32)).toNatClampNeg).toInt ≤ 7 := h.at (by show (if _ % 3 < 2 then _ else _) = _; rw [ix_s31 hx]; rfl)
theorem WT.us1 (h : WT m) {x v : Int32} (hx : 0 ≤ x.toInt ∧ x.toInt ≤ 11) (hv : 0 ≤ v.toInt ∧ v.toInt ≤ 7) : WT (uI m 213 (((3 : Int32) * x) + (1 : Int32)).toNatClampNeg v) := h.t (lo := 0) (hi := 7) (by show (if _ % 3 < 2 then _ else _) = _; rw [ix_s31 hx]; rfl) hv.1 hv.2
theorem ix_s32 {x : Int32} (hx : 0 ≤ x.toInt ∧ x.toInt ≤ 11) : (((3 : Int32) * x) + (2 : Int32)).toNatClampNeg % 3 = 2 := by
  have t0 := ti_mulc (c := 3) (y := 3) (x := x) rfl (by omega)
  have t1 := ti_addc (x := (3 : Int32) * x) (y := 2) (c := 2) rfl (by omega)
  have t2 := tn (x := (3 : Int32) * x + 2) (by omega)
  omega
theorem WT.us2 (h : WT m) {x v : Int32} (hx : 0 ≤ x.toInt ∧ x.toInt ≤ 11) : WT (uI m 213 (((3 : Int32) * x) + (2 : Int32)).toNatClampNeg v) := h.n (by show (if _ % 3 < 2 then _ else _) = _; rw [ix_s32 hx]; rfl)
end LB
end
section
/-! SAFETY OF THE MODEL, BY PROGRAM (has .. ill) -/
set_option maxHeartbeats 4000000 in
theorem s_X12_has {ad : Nat → Nat} {d : Nat} {m : Wm} {x0 x1 : Int32} (w : WT m) : Ct ad μX12_has d [.int x0, .int x1] m (fun r m' => WT m' ∧ Fx (RS []) m m' ∧ ∃ v : Int32, r = some (.int v) ∧ (0 : Int) ≤ v.toInt ∧ v.toInt ≤ 1) := by
  have f : Fx (RS []) m m := Fx.rf
  refine v_X12_has  ?_
  refine ⟨?_, ?_⟩
  · intro c1
    have t2 := t_and1 (x0 >>> (x1 &&& 31))
    have k3 := y_ner (n := 1) rfl c1
    exact ⟨w, f, _, rfl, (by show (0 : Int) ≤ (0 : Int); omega), (by show (0 : Int) ≤ (1 : Int); omega)⟩
  · intro c4
    have t5 := t_and1 (x0 >>> (x1 &&& 31))
    have k6 := y_eqr (n := 1) rfl c4
    exact ⟨w, f, _, rfl, (by show (0 : Int) ≤ (1 : Int); omega), (by show (1 : Int) ≤ (1 : Int); omega)⟩
set_option maxHeartbeats 4000000 in
theorem s_X12_lost {ad : Nat → Nat} {d : Nat} {m : Wm} (w : WT m) : Ct ad μX12_lost d [.ref (ad 187)] m (fun r m' => WT m' ∧ Fx (RS [20]) m m' ∧ ∃ v : Int32, r = some (.int v)) := by
  have f : Fx (RS [20]) m m := Fx.rf
  refine v_X12_lost  ?_
  have w1 : WT (uI m 187 17 (1 : Int32)) := w.n rfl
  have f1 : Fx (RS [20]) m (uI m 187 17 (1 : Int32)) := f.i rfl
  exact ⟨w1, f1, _, rfl⟩
set_option maxHeartbeats 4000000 in
theorem s_X12_tell {ad : Nat → Nat} {d : Nat} {m : Wm} {y1 : Int64} (w : WT m) (i1 : (m.1 187 16).toInt ≤ 15) : Ct ad μX12_tell d [.ref (ad 187), .long y1] m (fun r m' => WT m' ∧ Fx (RS [26]) m m' ∧ r = none ∧ ((m'.1 187 16).toInt = (m.1 187 16).toInt + 1)) := by
  have f : Fx (RS [26]) m m := Fx.rf
  refine v_X12_tell  ?_
  refine ⟨?_, ?_⟩
  · have r1 := w.at (a := 187) (k := 16) rfl
    exact vpi (by omega) (by omega)
  · have w2 : WT (uL m 196 ((m.1 187 16).toNatClampNeg) y1) := w.l
    have f2 : Fx (RS [26]) m (uL m 196 ((m.1 187 16).toNatClampNeg) y1) := f.l rfl
    have r4 := w.at (a := 187) (k := 16) rfl
    have t5 := ti_addc (x := (m.1 187 16)) (y := (1 : Int32)) (c := 1) rfl (by omega)
    have w3 : WT (uI (uL m 196 ((m.1 187 16).toNatClampNeg) y1) 187 16 (((uL m 196 ((m.1 187 16).toNatClampNeg) y1).1 187 16) + (1 : Int32))) := w2.t rfl (by show (0 : Int) ≤ (((m.1 187 16) + (1 : Int32))).toInt; omega) (by show (((m.1 187 16) + (1 : Int32))).toInt ≤ 16; omega)
    have f3 : Fx (RS [26]) m (uI (uL m 196 ((m.1 187 16).toNatClampNeg) y1) 187 16 (((uL m 196 ((m.1 187 16).toNatClampNeg) y1).1 187 16) + (1 : Int32))) := f2.i rfl
    exact ⟨w3, f3, rfl, (by show (((m.1 187 16) + (1 : Int32))).toInt = (m.1 187 16).toInt + 1; omega)⟩
set_option maxHeartbeats 4000000 in
theorem s_X12_isSide {ad : Nat → Nat} {d : Nat} {m : Wm} {x1 : Int32} (w : WT m) : Ct ad μX12_isSide (d + 1) [.ref (ad 187), .int x1] m (fun r m' => WT m' ∧ Fx (RS []) m m' ∧ ∃ v : Int32, r = some (.int v) ∧ (0 : Int) ≤ v.toInt ∧ v.toInt ≤ 1 ∧ ((v.toInt = 0 ∧ (x1.toInt < 0 ∨ (m.1 187 1).toInt ≤ x1.toInt)) ∨ (v.toInt = 1 ∧ 0 ≤ x1.toInt ∧ x1.toInt < (m.1 187 1).toInt))) := by
  have f : Fx (RS []) m m := Fx.rf
  refine v_X12_isSide  ?_
  have r1 := w.at (a := 187) (k := 1) rfl
  have t2 := ti_subc (x := (m.1 187 1)) (y := (1 : Int32)) (c := 1) rfl (by omega)
  refine (s_X12_in (x := x1) (lo := (0 : Int32)) (hi := ((m.1 187 1) - (1 : Int32))) w rfl rfl).to ?_
  rintro _ m1 ⟨w_m1, g3, v2, rfl, p5, p6, p4⟩
  have f_m1 : Fx (RS []) m m1 := f.tr g3 (RS_sub rfl)
  have p7 : (v2.toInt = 0 ∧ ((x1).toInt < (0 : Int) ∨ (((m.1 187 1) - (1 : Int32))).toInt < (x1).toInt)) ∨ (v2.toInt = 1 ∧ (0 : Int) ≤ (x1).toInt ∧ (x1).toInt ≤ (((m.1 187 1) - (1 : Int32))).toInt) := p4
  clear p4
  have e8 : (m1.1 187 1).toInt = ((m.1 187 1)).toInt := congrArg _ (g3.at (a := 187) (k := 1) (by decide))
  have e9 : (m1.1 187 0).toInt = ((m.1 187 0)).toInt := congrArg _ (g3.at (a := 187) (k := 0) (by decide))
  refine ⟨v2, rfl, ?_⟩
  refine ⟨?_, ?_⟩
  · exact bz_of (by omega) (by omega)
  · exact ⟨w_m1, f_m1, _, rfl, (by show (0 : Int) ≤ (v2).toInt; omega), (by show (v2).toInt ≤ (1 : Int); omega), (by show ((v2).toInt = 0 ∧ (x1.toInt < 0 ∨ (m.1 187 1).toInt ≤ x1.toInt)) ∨ ((v2).toInt = 1 ∧ 0 ≤ x1.toInt ∧ x1.toInt < (m.1 187 1).toInt); omega)⟩
set_option maxHeartbeats 4000000 in
theorem s_X12_isArt {ad : Nat → Nat} {d : Nat} {m : Wm} {x1 : Int32} (w : WT m) : Ct ad μX12_isArt (d + 1) [.ref (ad 187), .int x1] m (fun r m' => WT m' ∧ Fx (RS []) m m' ∧ ∃ v : Int32, r = some (.int v) ∧ (0 : Int) ≤ v.toInt ∧ v.toInt ≤ 1 ∧ ((v.toInt = 0 ∧ (x1.toInt < 0 ∨ (m.1 187 0).toInt ≤ x1.toInt)) ∨ (v.toInt = 1 ∧ 0 ≤ x1.toInt ∧ x1.toInt < (m.1 187 0).toInt))) := by
  have f : Fx (RS []) m m := Fx.rf
  refine v_X12_isArt  ?_
  have r1 := w.at (a := 187) (k := 0) rfl
  have t2 := ti_subc (x := (m.1 187 0)) (y := (1 : Int32)) (c := 1) rfl (by omega)
  refine (s_X12_in (x := x1) (lo := (0 : Int32)) (hi := ((m.1 187 0) - (1 : Int32))) w rfl rfl).to ?_
  rintro _ m1 ⟨w_m1, g3, v2, rfl, p5, p6, p4⟩
  have f_m1 : Fx (RS []) m m1 := f.tr g3 (RS_sub rfl)
  have p7 : (v2.toInt = 0 ∧ ((x1).toInt < (0 : Int) ∨ (((m.1 187 0) - (1 : Int32))).toInt < (x1).toInt)) ∨ (v2.toInt = 1 ∧ (0 : Int) ≤ (x1).toInt ∧ (x1).toInt ≤ (((m.1 187 0) - (1 : Int32))).toInt) := p4
  clear p4
  have e8 : (m1.1 187 1).toInt = ((m.1 187 1)).toInt := congrArg _ (g3.at (a := 187) (k := 1) (by decide))
  have e9 : (m1.1 187 0).toInt = ((m.1 187 0)).toInt := congrArg _ (g3.at (a := 187) (k := 0) (by decide))
  refine ⟨v2, rfl, ?_⟩
  refine ⟨?_, ?_⟩
  · exact bz_of (by omega) (by omega)
  · exact ⟨w_m1, f_m1, _, rfl, (by show (0 : Int) ≤ (v2).toInt; omega), (by show (v2).toInt ≤ (1 : Int); omega), (by show ((v2).toInt = 0 ∧ (x1.toInt < 0 ∨ (m.1 187 0).toInt ≤ x1.toInt)) ∨ ((v2).toInt = 1 ∧ 0 ≤ x1.toInt ∧ x1.toInt < (m.1 187 0).toInt); omega)⟩
set_option maxHeartbeats 4000000 in
theorem s_X12_areTwo {ad : Nat → Nat} {d : Nat} {m : Wm} {x1 x2 : Int32} (w : WT m) : Ct ad μX12_areTwo (d + 2) [.ref (ad 187), .int x1, .int x2] m (fun r m' => WT m' ∧ Fx (RS []) m m' ∧ ∃ v : Int32, r = some (.int v) ∧ (0 : Int) ≤ v.toInt ∧ v.toInt ≤ 1 ∧ ((v.toInt = 0 ∧ (x1.toInt < 0 ∨ (m.1 187 1).toInt ≤ x1.toInt ∨ x2.toInt < 0 ∨ (m.1 187 1).toInt ≤ x2.toInt ∨ x1.toInt = x2.toInt)) ∨ (v.toInt = 1 ∧ 0 ≤ x1.toInt ∧ x1.toInt < (m.1 187 1).toInt ∧ 0 ≤ x2.toInt ∧ x2.toInt < (m.1 187 1).toInt ∧ x1.toInt ≠ x2.toInt))) := by
  have f : Fx (RS []) m m := Fx.rf
  refine v_X12_areTwo  ?_
  refine (s_X12_isSide w).to ?_
  rintro _ m1 ⟨w_m1, g1, v2, rfl, p3, p4, p2⟩
  have f_m1 : Fx (RS []) m m1 := f.tr g1 (RS_sub rfl)
  have p5 : (v2.toInt = 0 ∧ ((x1).toInt < 0 ∨ ((m.1 187 1)).toInt ≤ (x1).toInt)) ∨ (v2.toInt = 1 ∧ 0 ≤ (x1).toInt ∧ (x1).toInt < ((m.1 187 1)).toInt) := p2
  clear p2
  have e6 : (m1.1 187 1).toInt = ((m.1 187 1)).toInt := congrArg _ (g1.at (a := 187) (k := 1) (by decide))
  have e7 : (m1.1 187 0).toInt = ((m.1 187 0)).toInt := congrArg _ (g1.at (a := 187) (k := 0) (by decide))
  refine ⟨v2, rfl, ?_⟩
  refine ⟨?_, ?_⟩
  · intro c8
    have k9 := y_eqr (n := 0) rfl c8
    exact ⟨w_m1, f_m1, _, rfl, (by show (0 : Int) ≤ (0 : Int); omega), (by show (0 : Int) ≤ (1 : Int); omega), (by show ((0 : Int) = 0 ∧ (x1.toInt < 0 ∨ (m.1 187 1).toInt ≤ x1.toInt ∨ x2.toInt < 0 ∨ (m.1 187 1).toInt ≤ x2.toInt ∨ x1.toInt = x2.toInt)) ∨ ((0 : Int) = 1 ∧ 0 ≤ x1.toInt ∧ x1.toInt < (m.1 187 1).toInt ∧ 0 ≤ x2.toInt ∧ x2.toInt < (m.1 187 1).toInt ∧ x1.toInt ≠ x2.toInt); omega)⟩
  · intro c10
    have k11 := y_ner (n := 0) rfl c10
    have r12 := w.at (a := 187) (k := 1) rfl
    refine (s_X12_isSide w_m1).to ?_
    rintro _ m3 ⟨w_m3, g13, v4, rfl, p15, p16, p14⟩
    have f_m3 : Fx (RS []) m m3 := f_m1.tr g13 (RS_sub rfl)
    have p17 : (v4.toInt = 0 ∧ ((x2).toInt < 0 ∨ ((m1.1 187 1)).toInt ≤ (x2).toInt)) ∨ (v4.toInt = 1 ∧ 0 ≤ (x2).toInt ∧ (x2).toInt < ((m1.1 187 1)).toInt) := p14
    clear p14
    have e18 : (m3.1 187 1).toInt = ((m1.1 187 1)).toInt := congrArg _ (g13.at (a := 187) (k := 1) (by decide))
    have e19 : (m3.1 187 0).toInt = ((m1.1 187 0)).toInt := congrArg _ (g13.at (a := 187) (k := 0) (by decide))
    refine ⟨v4, rfl, ?_⟩
    refine ⟨?_, ?_⟩
    · intro c20
      have k21 := y_eqr (n := 0) rfl c20
      exact ⟨w_m3, f_m3, _, rfl, (by show (0 : Int) ≤ (0 : Int); omega), (by show (0 : Int) ≤ (1 : Int); omega), (by show ((0 : Int) = 0 ∧ (x1.toInt < 0 ∨ (m.1 187 1).toInt ≤ x1.toInt ∨ x2.toInt < 0 ∨ (m.1 187 1).toInt ≤ x2.toInt ∨ x1.toInt = x2.toInt)) ∨ ((0 : Int) = 1 ∧ 0 ≤ x1.toInt ∧ x1.toInt < (m.1 187 1).toInt ∧ 0 ≤ x2.toInt ∧ x2.toInt < (m.1 187 1).toInt ∧ x1.toInt ≠ x2.toInt); omega)⟩
    · intro c22
      have k23 := y_ner (n := 0) rfl c22
      have r24 := w_m1.at (a := 187) (k := 1) rfl
      refine ⟨?_, ?_⟩
      · intro c25
        have k26 := z_eq c25
        exact ⟨w_m3, f_m3, _, rfl, (by show (0 : Int) ≤ (0 : Int); omega), (by show (0 : Int) ≤ (1 : Int); omega), (by show ((0 : Int) = 0 ∧ (x1.toInt < 0 ∨ (m.1 187 1).toInt ≤ x1.toInt ∨ x2.toInt < 0 ∨ (m.1 187 1).toInt ≤ x2.toInt ∨ x1.toInt = x2.toInt)) ∨ ((0 : Int) = 1 ∧ 0 ≤ x1.toInt ∧ x1.toInt < (m.1 187 1).toInt ∧ 0 ≤ x2.toInt ∧ x2.toInt < (m.1 187 1).toInt ∧ x1.toInt ≠ x2.toInt); omega)⟩
      · intro c27
        have k28 := z_ne c27
        exact ⟨w_m3, f_m3, _, rfl, (by show (0 : Int) ≤ (1 : Int); omega), (by show (1 : Int) ≤ (1 : Int); omega), (by show ((1 : Int) = 0 ∧ (x1.toInt < 0 ∨ (m.1 187 1).toInt ≤ x1.toInt ∨ x2.toInt < 0 ∨ (m.1 187 1).toInt ≤ x2.toInt ∨ x1.toInt = x2.toInt)) ∨ ((1 : Int) = 1 ∧ 0 ≤ x1.toInt ∧ x1.toInt < (m.1 187 1).toInt ∧ 0 ≤ x2.toInt ∧ x2.toInt < (m.1 187 1).toInt ∧ x1.toInt ≠ x2.toInt); omega)⟩
set_option maxHeartbeats 4000000 in
theorem l_X12_sign {ad : Nat → Nat} {d : Nat} {m0 : Wm}  : ∀ n : Nat, (∀ (m : Wm) (x1 x2 : Int32), WT m → Fx (RS [20, 21]) m0 m → (-1 : Int) ≤ x2.toInt → x2.toInt ≤ (3 : Int) → ((m.1 187 14).toInt = (m0.1 187 14).toInt + 3 - x2.toInt) → ((m0.1 187 14).toInt ≤ 76) → x2.toInt + 1 < (n : Int) → AW ad E0 μX12_sign d (fun r m' => WT m' ∧ Fx (RS [20, 21]) m0 m' ∧ ∃ v : Int32, r = some (.int v) ∧ ((v.toInt = -1 ∧ (m'.1 187 14).toInt = (m0.1 187 14).toInt ∧ 76 < (m0.1 187 14).toInt) ∨ (v.toInt = (m0.1 187 14).toInt + 4 ∧ (m'.1 187 14).toInt = (m0.1 187 14).toInt + 4 ∧ (m0.1 187 14).toInt ≤ 76))) 20 [(0, .ref (ad 187)), (1, .int x1), (2, .int x2)] [] m) := by
  intro n
  induction n with
  | zero =>
    intros
    exfalso
    omega
  | succ n ih =>
    intro m x1 x2 w f j1 j2 j3 j4 hn
    refine g_X12_sign_20  ?_
    refine ⟨?_, ?_⟩
    · intro c1
      have k2 := y_ltr (n := 0) rfl c1
      have r3 := w.at (a := 187) (k := 14) rfl
      exact ⟨w, f, _, rfl, (by show (((m.1 187 14)).toInt = -1 ∧ ((m.1 187 14)).toInt = (m0.1 187 14).toInt ∧ 76 < (m0.1 187 14).toInt) ∨ (((m.1 187 14)).toInt = (m0.1 187 14).toInt + 4 ∧ ((m.1 187 14)).toInt = (m0.1 187 14).toInt + 4 ∧ (m0.1 187 14).toInt ≤ 76); omega)⟩
    · intro c4
      have k5 := y_nltr (n := 0) rfl c4
      refine ⟨?_, ?_⟩
      · have r6 := w.at (a := 187) (k := 14) rfl
        exact vpi (by omega) (by omega)
      · have r8 := w.at (a := 187) (k := 14) rfl
        have t9 := ti_addc (x := (m.1 187 14)) (y := (1 : Int32)) (c := 1) rfl (by omega)
        have w7 : WT (uI m 187 14 ((m.1 187 14) + (1 : Int32))) := w.t rfl (by show (0 : Int) ≤ (((m.1 187 14) + (1 : Int32))).toInt; omega) (by show (((m.1 187 14) + (1 : Int32))).toInt ≤ 80; omega)
        have f7 : Fx (RS [20, 21]) m0 (uI m 187 14 ((m.1 187 14) + (1 : Int32))) := f.i rfl
        have w10 : WT (uI (uI m 187 14 ((m.1 187 14) + (1 : Int32))) 195 ((m.1 187 14).toNatClampNeg) (vp_nar .byte ((x1 >>> (((8 : Int32) * x2) &&& 31)).toInt8.toInt32))) := w7.n rfl
        have f10 : Fx (RS [20, 21]) m0 (uI (uI m 187 14 ((m.1 187 14) + (1 : Int32))) 195 ((m.1 187 14).toNatClampNeg) (vp_nar .byte ((x1 >>> (((8 : Int32) * x2) &&& 31)).toInt8.toInt32))) := f7.i rfl
        have t11 := ti_addc (x := x2) (y := (-1 : Int32)) (c := -1) rfl (by omega)
        exact ih _ _ _ w10 f10 (by show (-1 : Int) ≤ ((x2 + (-1 : Int32))).toInt; omega) (by show ((x2 + (-1 : Int32))).toInt ≤ (3 : Int); omega) (by show (((m.1 187 14) + (1 : Int32))).toInt = (m0.1 187 14).toInt + 3 - ((x2 + (-1 : Int32))).toInt; omega) (by show (m0.1 187 14).toInt ≤ 76; omega) (by show ((x2 + (-1 : Int32))).toInt + 1 < _; omega)
set_option maxHeartbeats 4000000 in
theorem s_X12_sign {ad : Nat → Nat} {d : Nat} {m : Wm} {x1 : Int32} (w : WT m) : Ct ad μX12_sign d [.ref (ad 187), .int x1] m (fun r m' => WT m' ∧ Fx (RS [20, 21]) m m' ∧ ∃ v : Int32, r = some (.int v) ∧ ((v.toInt = -1 ∧ (m'.1 187 14).toInt = (m.1 187 14).toInt ∧ 76 < (m.1 187 14).toInt) ∨ (v.toInt = (m.1 187 14).toInt + 4 ∧ (m'.1 187 14).toInt = (m.1 187 14).toInt + 4 ∧ (m.1 187 14).toInt ≤ 76))) := by
  have f : Fx (RS [20, 21]) m m := Fx.rf
  refine v_X12_sign  ?_
  refine ⟨?_, ?_⟩
  · intro c1
    have r2 := w.at (a := 187) (k := 14) rfl
    have t3 := ti_addc (x := (m.1 187 14)) (y := (4 : Int32)) (c := 4) rfl (by omega)
    have c4 : ((m.1 187 14) + (4 : Int32)) ≤ (80 : Int32) := c1
    have k5 := y_ler (n := 80) rfl c4
    have w6 : WT (uI m 187 17 (0 : Int32)) := w.n rfl
    have f6 : Fx (RS [20, 21]) m (uI m 187 17 (0 : Int32)) := f.i rfl
    exact (l_X12_sign (m0 := m) 1000000) _ _ _ w6 f6 (by show (-1 : Int) ≤ (3 : Int); omega) (by show (3 : Int) ≤ (3 : Int); omega) (by show ((m.1 187 14)).toInt = (m.1 187 14).toInt + 3 - (3 : Int); omega) (by show (m.1 187 14).toInt ≤ 76; omega) (by show (3 : Int) + 1 < _; omega)
  · intro c7
    have r8 := w.at (a := 187) (k := 14) rfl
    have t9 := ti_addc (x := (m.1 187 14)) (y := (4 : Int32)) (c := 4) rfl (by omega)
    have c10 : ¬ ((m.1 187 14) + (4 : Int32)) ≤ (80 : Int32) := c7
    have k11 := y_nler (n := 80) rfl c10
    have w12 : WT (uI m 187 17 (0 : Int32)) := w.n rfl
    have f12 : Fx (RS [20, 21]) m (uI m 187 17 (0 : Int32)) := f.i rfl
    exact ⟨w12, f12, _, rfl, (by show ((-1 : Int) = -1 ∧ ((m.1 187 14)).toInt = (m.1 187 14).toInt ∧ 76 < (m.1 187 14).toInt) ∨ ((-1 : Int) = (m.1 187 14).toInt + 4 ∧ ((m.1 187 14)).toInt = (m.1 187 14).toInt + 4 ∧ (m.1 187 14).toInt ≤ 76); omega)⟩
set_option maxHeartbeats 4000000 in
theorem s_X12_end {ad : Nat → Nat} {d : Nat} {m : Wm} {x1 : Int32} (w : WT m) : Ct ad μX12_end (d + 1) [.ref (ad 187), .int x1] m (fun r m' => WT m' ∧ Fx (RS [20, 21]) m m' ∧ ∃ v : Int32, r = some (.int v) ∧ (0 : Int) ≤ v.toInt ∧ v.toInt ≤ 1 ∧ ((v.toInt = 0 ∧ (m'.1 187 14).toInt = (m.1 187 14).toInt ∧ (x1.toInt < 0 ∨ (m.1 187 14).toInt < x1.toInt)) ∨ (v.toInt = 1 ∧ (m'.1 187 14).toInt = x1.toInt ∧ 0 ≤ x1.toInt ∧ x1.toInt ≤ (m.1 187 14).toInt))) := by
  have f : Fx (RS [20, 21]) m m := Fx.rf
  refine v_X12_end  ?_
  have w1 : WT (uI m 187 17 (0 : Int32)) := w.n rfl
  have f1 : Fx (RS [20, 21]) m (uI m 187 17 (0 : Int32)) := f.i rfl
  have r2 := w.at (a := 187) (k := 14) rfl
  refine (s_X12_in (x := x1) (lo := (0 : Int32)) (hi := (m.1 187 14)) w1 rfl rfl).to ?_
  rintro _ m1 ⟨w_m1, g3, v2, rfl, p5, p6, p4⟩
  have f_m1 : Fx (RS [20, 21]) m m1 := f1.tr g3 (RS_sub rfl)
  have p7 : (v2.toInt = 0 ∧ ((x1).toInt < (0 : Int) ∨ ((m.1 187 14)).toInt < (x1).toInt)) ∨ (v2.toInt = 1 ∧ (0 : Int) ≤ (x1).toInt ∧ (x1).toInt ≤ ((m.1 187 14)).toInt) := p4
  clear p4
  have e8 : (m1.1 187 14).toInt = ((m.1 187 14)).toInt := congrArg _ (g3.at (a := 187) (k := 14) (by decide))
  have e9 : (m1.1 187 1).toInt = ((m.1 187 1)).toInt := congrArg _ (g3.at (a := 187) (k := 1) (by decide))
  have e10 : (m1.1 187 0).toInt = ((m.1 187 0)).toInt := congrArg _ (g3.at (a := 187) (k := 0) (by decide))
  refine ⟨v2, rfl, ?_⟩
  refine ⟨?_, ?_⟩
  · intro c11
    have k12 := y_ner (n := 0) rfl c11
    have w13 : WT (uI m1 187 14 x1) := w_m1.t rfl (by show (0 : Int) ≤ (x1).toInt; omega) (by show (x1).toInt ≤ 80; omega)
    have f13 : Fx (RS [20, 21]) m (uI m1 187 14 x1) := f_m1.i rfl
    exact ⟨w13, f13, _, rfl, (by show (0 : Int) ≤ (1 : Int); omega), (by show (1 : Int) ≤ (1 : Int); omega), (by show ((1 : Int) = 0 ∧ (x1).toInt = (m.1 187 14).toInt ∧ (x1.toInt < 0 ∨ (m.1 187 14).toInt < x1.toInt)) ∨ ((1 : Int) = 1 ∧ (x1).toInt = x1.toInt ∧ 0 ≤ x1.toInt ∧ x1.toInt ≤ (m.1 187 14).toInt); omega)⟩
  · intro c14
    have k15 := y_eqr (n := 0) rfl c14
    have r16 := w_m1.at (a := 187) (k := 14) rfl
    exact ⟨w_m1, f_m1, _, rfl, (by show (0 : Int) ≤ (0 : Int); omega), (by show (0 : Int) ≤ (1 : Int); omega), (by show ((0 : Int) = 0 ∧ ((m1.1 187 14)).toInt = (m.1 187 14).toInt ∧ (x1.toInt < 0 ∨ (m.1 187 14).toInt < x1.toInt)) ∨ ((0 : Int) = 1 ∧ ((m1.1 187 14)).toInt = x1.toInt ∧ 0 ≤ x1.toInt ∧ x1.toInt ≤ (m.1 187 14).toInt); omega)⟩
set_option maxHeartbeats 4000000 in
theorem s_X12_skill {ad : Nat → Nat} {d : Nat} {m : Wm} {x1 x2 : Int32} (w : WT m) : Ct ad μX12_skill (d + 2) [.ref (ad 187), .int x1, .int x2] m (fun r m' => WT m' ∧ Fx (RS [20]) m m' ∧ ∃ v : Int32, r = some (.int v)) := by
  have f : Fx (RS [20]) m m := Fx.rf
  refine v_X12_skill  ?_
  have w1 : WT (uI m 187 17 (0 : Int32)) := w.n rfl
  have f1 : Fx (RS [20]) m (uI m 187 17 (0 : Int32)) := f.i rfl
  refine (s_X12_isSide w1).to ?_
  rintro _ m1 ⟨w_m1, g2, v2, rfl, p4, p5, p3⟩
  have f_m1 : Fx (RS [20]) m m1 := f1.tr g2 (RS_sub rfl)
  have p6 : (v2.toInt = 0 ∧ ((x1).toInt < 0 ∨ ((m.1 187 1)).toInt ≤ (x1).toInt)) ∨ (v2.toInt = 1 ∧ 0 ≤ (x1).toInt ∧ (x1).toInt < ((m.1 187 1)).toInt) := p3
  clear p3
  have e7 : (m1.1 187 1).toInt = ((m.1 187 1)).toInt := congrArg _ (g2.at (a := 187) (k := 1) (by decide))
  have e8 : (m1.1 187 0).toInt = ((m.1 187 0)).toInt := congrArg _ (g2.at (a := 187) (k := 0) (by decide))
  refine ⟨v2, rfl, ?_⟩
  refine ⟨?_, ?_⟩
  · intro c9
    have k10 := y_eqr (n := 0) rfl c9
    exact ⟨w_m1, f_m1, _, rfl⟩
  · intro c11
    have k12 := y_ner (n := 0) rfl c11
    have r13 := w.at (a := 187) (k := 1) rfl
    refine (s_X12_isArt w_m1).to ?_
    rintro _ m3 ⟨w_m3, g14, v4, rfl, p16, p17, p15⟩
    have f_m3 : Fx (RS [20]) m m3 := f_m1.tr g14 (RS_sub rfl)
    have p18 : (v4.toInt = 0 ∧ ((x2).toInt < 0 ∨ ((m1.1 187 0)).toInt ≤ (x2).toInt)) ∨ (v4.toInt = 1 ∧ 0 ≤ (x2).toInt ∧ (x2).toInt < ((m1.1 187 0)).toInt) := p15
    clear p15
    have e19 : (m3.1 187 1).toInt = ((m1.1 187 1)).toInt := congrArg _ (g14.at (a := 187) (k := 1) (by decide))
    have e20 : (m3.1 187 0).toInt = ((m1.1 187 0)).toInt := congrArg _ (g14.at (a := 187) (k := 0) (by decide))
    refine ⟨v4, rfl, ?_⟩
    refine ⟨?_, ?_⟩
    · intro c21
      have k22 := y_eqr (n := 0) rfl c21
      exact ⟨w_m3, f_m3, _, rfl⟩
    · intro c23
      have k24 := y_ner (n := 0) rfl c23
      have r25 := w_m1.at (a := 187) (k := 0) rfl
      refine ⟨?_, ?_⟩
      · have t26 := ti_mulc (c := 4) (y := (4 : Int32)) (x := x1) rfl (by omega)
        have t27 := ti_add (x := ((4 : Int32) * x1)) (y := x2) (by omega)
        exact vpi (by omega) (by omega)
      · exact ⟨w_m3, f_m3, _, rfl⟩
set_option maxHeartbeats 4000000 in
theorem l_X12_sumOf {ad : Nat → Nat} {d : Nat} {m0 : Wm}  : ∀ n : Nat, (∀ (m : Wm) (x1 x2 x3 : Int32), WT m → Fx (RS []) m0 m → (0 : Int) ≤ x1.toInt → x1.toInt ≤ (7 : Int) → (0 : Int) ≤ x3.toInt → x3.toInt ≤ (4 : Int) → 4 - x3.toInt < (n : Int) → AW ad E0 μX12_sumOf d (fun r m' => WT m' ∧ Fx (RS []) m0 m' ∧ ∃ v : Int32, r = some (.int v)) 4 [(0, .ref (ad 187)), (1, .int x1), (2, .int x2), (3, .int x3)] [] m) := by
  intro n
  induction n with
  | zero =>
    intros
    exfalso
    omega
  | succ n ih =>
    intro m x1 x2 x3 w f j1 j2 j3 j4 hn
    refine g_X12_sumOf_4  ?_
    refine ⟨?_, ?_⟩
    · intro c1
      have r2 := w.at (a := 187) (k := 0) rfl
      have k3 := z_le c1
      exact ⟨w, f, _, rfl⟩
    · intro c4
      have r5 := w.at (a := 187) (k := 0) rfl
      have k6 := z_nle c4
      refine ⟨?_, ?_⟩
      · have t7 := ti_mulc (c := 4) (y := (4 : Int32)) (x := x1) rfl (by omega)
        have t8 := ti_add (x := ((4 : Int32) * x1)) (y := x3) (by omega)
        exact vpi (by omega) (by omega)
      · have t9 := ti_addc (x := x3) (y := (1 : Int32)) (c := 1) rfl (by omega)
        exact ih _ _ _ _ w f (by show (0 : Int) ≤ (x1).toInt; omega) (by show (x1).toInt ≤ (7 : Int); omega) (by show (0 : Int) ≤ ((x3 + (1 : Int32))).toInt; omega) (by show ((x3 + (1 : Int32))).toInt ≤ (4 : Int); omega) (by show 4 - ((x3 + (1 : Int32))).toInt < _; omega)
set_option maxHeartbeats 4000000 in
theorem s_X12_sumOf {ad : Nat → Nat} {d : Nat} {m : Wm} {x1 : Int32} (w : WT m) (i1 : (0 : Int) ≤ x1.toInt) (i2 : x1.toInt ≤ (7 : Int)) : Ct ad μX12_sumOf d [.ref (ad 187), .int x1] m (fun r m' => WT m' ∧ Fx (RS []) m m' ∧ ∃ v : Int32, r = some (.int v)) := by
  have f : Fx (RS []) m m := Fx.rf
  refine v_X12_sumOf  ?_
  exact (l_X12_sumOf (m0 := m) 1000000) _ _ _ _ w f (by show (0 : Int) ≤ (x1).toInt; omega) (by show (x1).toInt ≤ (7 : Int); omega) (by show (0 : Int) ≤ (0 : Int); omega) (by show (0 : Int) ≤ (4 : Int); omega) (by show 4 - (0 : Int) < _; omega)
set_option maxHeartbeats 4000000 in
theorem l_X12_sumOfAll {ad : Nat → Nat} {d : Nat} {m0 : Wm}  : ∀ n : Nat, (∀ (m : Wm) (x1 x2 : Int32), WT m → Fx (RS []) m0 m → (0 : Int) ≤ x2.toInt → x2.toInt ≤ (8 : Int) → 8 - x2.toInt < (n : Int) → AW ad E0 μX12_sumOfAll (d + 1) (fun r m' => WT m' ∧ Fx (RS []) m0 m' ∧ ∃ v : Int32, r = some (.int v)) 4 [(0, .ref (ad 187)), (1, .int x1), (2, .int x2)] [] m) := by
  intro n
  induction n with
  | zero =>
    intros
    exfalso
    omega
  | succ n ih =>
    intro m x1 x2 w f j1 j2 hn
    refine g_X12_sumOfAll_4  ?_
    refine ⟨?_, ?_⟩
    · intro c1
      have r2 := w.at (a := 187) (k := 1) rfl
      have k3 := z_le c1
      exact ⟨w, f, _, rfl⟩
    · intro c4
      have r5 := w.at (a := 187) (k := 1) rfl
      have k6 := z_nle c4
      refine (s_X12_sumOf w (by show (0 : Int) ≤ (x2).toInt; omega) (by show (x2).toInt ≤ (7 : Int); omega)).to ?_
      rintro _ m1 ⟨w_m1, g7, v2, rfl⟩
      have f_m1 : Fx (RS []) m0 m1 := f.tr g7 (RS_sub rfl)
      have e8 : (m1.1 187 1).toInt = ((m.1 187 1)).toInt := congrArg _ (g7.at (a := 187) (k := 1) (by decide))
      have e9 : (m1.1 187 0).toInt = ((m.1 187 0)).toInt := congrArg _ (g7.at (a := 187) (k := 0) (by decide))
      refine ⟨v2, rfl, ?_⟩
      have t10 := ti_addc (x := x2) (y := (1 : Int32)) (c := 1) rfl (by omega)
      exact ih _ _ _ w_m1 f_m1 (by show (0 : Int) ≤ ((x2 + (1 : Int32))).toInt; omega) (by show ((x2 + (1 : Int32))).toInt ≤ (8 : Int); omega) (by show 8 - ((x2 + (1 : Int32))).toInt < _; omega)
set_option maxHeartbeats 4000000 in
theorem s_X12_sumOfAll {ad : Nat → Nat} {d : Nat} {m : Wm} (w : WT m) : Ct ad μX12_sumOfAll (d + 1) [.ref (ad 187)] m (fun r m' => WT m' ∧ Fx (RS []) m m' ∧ ∃ v : Int32, r = some (.int v)) := by
  have f : Fx (RS []) m m := Fx.rf
  refine v_X12_sumOfAll  ?_
  exact (l_X12_sumOfAll (m0 := m) 1000000) _ _ _ w f (by show (0 : Int) ≤ (0 : Int); omega) (by show (0 : Int) ≤ (8 : Int); omega) (by show 8 - (0 : Int) < _; omega)
set_option maxHeartbeats 4000000 in
theorem s_X12_of {ad : Nat → Nat} {d : Nat} {m : Wm} {x1 x2 : Int32} (w : WT m) : Ct ad μX12_of (d + 169) [.ref (ad 187), .int x1, .int x2] m (fun r m' => WT m' ∧ Fx (RS [20, 22, 28]) m m' ∧ ∃ v : Int32, r = some (.int v)) := by
  have f : Fx (RS [20, 22, 28]) m m := Fx.rf
  refine v_X12_of  ?_
  have w1 : WT (uI m 187 17 (0 : Int32)) := w.n rfl
  have f1 : Fx (RS [20, 22, 28]) m (uI m 187 17 (0 : Int32)) := f.i rfl
  refine (s_X12_isSide w1).to ?_
  rintro _ m1 ⟨w_m1, g2, v2, rfl, p4, p5, p3⟩
  have f_m1 : Fx (RS [20, 22, 28]) m m1 := f1.tr g2 (RS_sub rfl)
  have p6 : (v2.toInt = 0 ∧ ((x1).toInt < 0 ∨ ((m.1 187 1)).toInt ≤ (x1).toInt)) ∨ (v2.toInt = 1 ∧ 0 ≤ (x1).toInt ∧ (x1).toInt < ((m.1 187 1)).toInt) := p3
  clear p3
  have e7 : (m1.1 187 1).toInt = ((m.1 187 1)).toInt := congrArg _ (g2.at (a := 187) (k := 1) (by decide))
  have e8 : (m1.1 187 0).toInt = ((m.1 187 0)).toInt := congrArg _ (g2.at (a := 187) (k := 0) (by decide))
  refine ⟨v2, rfl, ?_⟩
  refine ⟨?_, ?_⟩
  · intro c9
    have k10 := y_eqr (n := 0) rfl c9
    refine (s_X12_lost w_m1).to ?_
    rintro _ m3 ⟨w_m3, g11, v4, rfl⟩
    have f_m3 : Fx (RS [20, 22, 28]) m m3 := f_m1.tr g11 (RS_sub rfl)
    have e12 : (m3.1 187 1).toInt = ((m1.1 187 1)).toInt := congrArg _ (g11.at (a := 187) (k := 1) (by decide))
    have e13 : (m3.1 187 0).toInt = ((m1.1 187 0)).toInt := congrArg _ (g11.at (a := 187) (k := 0) (by decide))
    refine ⟨v4, rfl, ?_⟩
    exact ⟨w_m3, f_m3, _, rfl⟩
  · intro c14
    have k15 := y_ner (n := 0) rfl c14
    have r16 := w.at (a := 187) (k := 1) rfl
    refine (s_X12_in (x := x2) (lo := (0 : Int32)) (hi := (4 : Int32)) w_m1 rfl rfl).to ?_
    rintro _ m5 ⟨w_m5, g17, v6, rfl, p19, p20, p18⟩
    have f_m5 : Fx (RS [20, 22, 28]) m m5 := f_m1.tr g17 (RS_sub rfl)
    have p21 : (v6.toInt = 0 ∧ ((x2).toInt < (0 : Int) ∨ (4 : Int) < (x2).toInt)) ∨ (v6.toInt = 1 ∧ (0 : Int) ≤ (x2).toInt ∧ (x2).toInt ≤ (4 : Int)) := p18
    clear p18
    have e22 : (m5.1 187 1).toInt = ((m1.1 187 1)).toInt := congrArg _ (g17.at (a := 187) (k := 1) (by decide))
    have e23 : (m5.1 187 0).toInt = ((m1.1 187 0)).toInt := congrArg _ (g17.at (a := 187) (k := 0) (by decide))
    refine ⟨v6, rfl, ?_⟩
    refine ⟨?_, ?_⟩
    · intro c24
      have k25 := y_ner (n := 0) rfl c24
      refine ⟨?_, ?_⟩
      · intro c26
        have k27 := y_ner (n := 0) rfl c26
        refine ⟨?_, ?_⟩
        · intro c28
          have k29 := y_ner (n := 1) rfl c28
          refine ⟨?_, ?_⟩
          · intro c30
            have k31 := y_ner (n := 2) rfl c30
            refine ⟨?_, ?_⟩
            · intro c32
              have k33 := y_ner (n := 3) rfl c32
              refine ⟨?_, ?_⟩
              · exact vpi (by omega) (by omega)
              · exact ⟨w_m5, f_m5, _, rfl⟩
            · intro c34
              have k35 := y_eqr (n := 3) rfl c34
              refine ⟨?_, ?_⟩
              · exact vpi (by omega) (by omega)
              · refine ⟨?_, ?_⟩
                · intro c36
                  have k37 := y_eqr (n := 0) rfl c36
                  exact ⟨w_m5, f_m5, _, rfl⟩
                · intro c38
                  have k39 := y_ner (n := 0) rfl c38
                  exact ⟨w_m5, f_m5, _, rfl⟩
          · intro c40
            have k41 := y_eqr (n := 2) rfl c40
            refine ⟨?_, ?_⟩
            · exact vpi (by omega) (by omega)
            · exact ⟨w_m5, f_m5, _, rfl⟩
        · intro c42
          have k43 := y_eqr (n := 1) rfl c42
          refine ⟨?_, ?_⟩
          · exact vpi (by omega) (by omega)
          · exact ⟨w_m5, f_m5, _, rfl⟩
      · intro c44
        have k45 := y_eqr (n := 0) rfl c44
        refine (s_X12_power w_m5 (by show (0 : Int) ≤ (x1).toInt; omega) (by show (x1).toInt ≤ (7 : Int); omega)).to ?_
        rintro _ m7 ⟨w_m7, g46, v8, rfl⟩
        have f_m7 : Fx (RS [20, 22, 28]) m m7 := f_m5.tr g46 (RS_sub rfl)
        have e47 : (m7.1 187 1).toInt = ((m5.1 187 1)).toInt := congrArg _ (g46.at (a := 187) (k := 1) (by decide))
        have e48 : (m7.1 187 0).toInt = ((m5.1 187 0)).toInt := congrArg _ (g46.at (a := 187) (k := 0) (by decide))
        refine ⟨v8, rfl, ?_⟩
        exact ⟨w_m7, f_m7, _, rfl⟩
    · intro c49
      have k50 := y_eqr (n := 0) rfl c49
      refine (s_X12_lost w_m5).to ?_
      rintro _ m9 ⟨w_m9, g51, v10, rfl⟩
      have f_m9 : Fx (RS [20, 22, 28]) m m9 := f_m5.tr g51 (RS_sub rfl)
      have e52 : (m9.1 187 1).toInt = ((m5.1 187 1)).toInt := congrArg _ (g51.at (a := 187) (k := 1) (by decide))
      have e53 : (m9.1 187 0).toInt = ((m5.1 187 0)).toInt := congrArg _ (g51.at (a := 187) (k := 0) (by decide))
      refine ⟨v10, rfl, ?_⟩
      exact ⟨w_m9, f_m9, _, rfl⟩
set_option maxHeartbeats 4000000 in
theorem l_X12_law {ad : Nat → Nat} {d : Nat} {m0 : Wm}  : ∀ n : Nat, (∀ (m : Wm) (x1 x2 s0 : Int32), WT m → Fx (RS [20, 47]) m0 m → (0 : Int) ≤ s0.toInt → s0.toInt ≤ (1 : Int) → 0 * x1.toInt + 2 < (n : Int) → AW ad E0 μX12_law (d + 1) (fun r m' => WT m' ∧ Fx (RS [20, 47]) m0 m' ∧ ∃ v : Int32, r = some (.int v)) 15 [(0, .ref (ad 187)), (1, .int x1), (2, .int x2)] [.int s0] m) ∧ (∀ (m : Wm) (x1 x2 x3 s0 : Int32), WT m → Fx (RS [20, 47]) m0 m → (0 : Int) ≤ x3.toInt → x3.toInt ≤ (1 : Int) → 0 * x1.toInt + 1 < (n : Int) → AW ad E0 μX12_law (d + 1) (fun r m' => WT m' ∧ Fx (RS [20, 47]) m0 m' ∧ ∃ v : Int32, r = some (.int v)) 50 [(0, .ref (ad 187)), (1, .int x1), (2, .int x2), (3, .int x3)] [.int s0] m) := by
  intro n
  induction n with
  | zero =>
    refine ⟨?_, ?_⟩ <;> intros <;> exfalso <;> omega
  | succ n ih =>
    refine ⟨?_, ?_⟩
    · intro m x1 x2 s0 w f j1 j2 hn
      refine g_X12_law_15  ?_
      refine ⟨?_, ?_⟩
      · intro c1
        have k2 := y_eqr (n := 0) rfl c1
        exact ih.2 _ _ _ _ _ w f (by show (0 : Int) ≤ (s0).toInt; omega) (by show (s0).toInt ≤ (1 : Int); omega) (by show 0 * (x1).toInt + 1 < _; omega)
      · intro c3
        have k4 := y_ner (n := 0) rfl c3
        refine ⟨?_, ?_⟩
        · intro c5
          have k6 := y_ner (n := 1) rfl c5
          refine ⟨?_, ?_⟩
          · intro c7
            have k8 := y_ner (n := 2) rfl c7
            refine ⟨?_, ?_⟩
            · intro c9
              have k10 := y_ner (n := 3) rfl c9
              exact ih.2 _ _ _ _ _ w f (by show (0 : Int) ≤ (s0).toInt; omega) (by show (s0).toInt ≤ (1 : Int); omega) (by show 0 * (x1).toInt + 1 < _; omega)
            · intro c11
              have k12 := y_eqr (n := 3) rfl c11
              exact ih.2 _ _ _ _ _ w f (by show (0 : Int) ≤ (s0).toInt; omega) (by show (s0).toInt ≤ (1 : Int); omega) (by show 0 * (x1).toInt + 1 < _; omega)
          · intro c13
            have k14 := y_eqr (n := 2) rfl c13
            exact ih.2 _ _ _ _ _ w f (by show (0 : Int) ≤ (s0).toInt; omega) (by show (s0).toInt ≤ (1 : Int); omega) (by show 0 * (x1).toInt + 1 < _; omega)
        · intro c15
          have k16 := y_eqr (n := 1) rfl c15
          exact ih.2 _ _ _ _ _ w f (by show (0 : Int) ≤ (s0).toInt; omega) (by show (s0).toInt ≤ (1 : Int); omega) (by show 0 * (x1).toInt + 1 < _; omega)
    · intro m x1 x2 x3 s0 w f j1 j2 hn
      refine g_X12_law_50  ?_
      refine (s_X12_in (x := x1) (lo := (0 : Int32)) (hi := (4 : Int32)) w rfl rfl).to ?_
      rintro _ m1 ⟨w_m1, g1, v2, rfl, p3, p4, p2⟩
      have f_m1 : Fx (RS [20, 47]) m0 m1 := f.tr g1 (RS_sub rfl)
      have p5 : (v2.toInt = 0 ∧ ((x1).toInt < (0 : Int) ∨ (4 : Int) < (x1).toInt)) ∨ (v2.toInt = 1 ∧ (0 : Int) ≤ (x1).toInt ∧ (x1).toInt ≤ (4 : Int)) := p2
      clear p2
      have e6 : (m1.1 187 1).toInt = ((m.1 187 1)).toInt := congrArg _ (g1.at (a := 187) (k := 1) (by decide))
      have e7 : (m1.1 187 0).toInt = ((m.1 187 0)).toInt := congrArg _ (g1.at (a := 187) (k := 0) (by decide))
      refine ⟨v2, rfl, ?_⟩
      refine ⟨?_, ?_⟩
      · intro c8
        have k9 := y_eqr (n := 0) rfl c8
        exact ⟨w_m1, f_m1, _, rfl⟩
      · intro c10
        have k11 := y_ner (n := 0) rfl c10
        refine (s_X12_in (x := x2) (lo := x3) (hi := s0) w_m1 rfl rfl).to ?_
        rintro _ m3 ⟨w_m3, g12, v4, rfl, p14, p15, p13⟩
        have f_m3 : Fx (RS [20, 47]) m0 m3 := f_m1.tr g12 (RS_sub rfl)
        have p16 : (v4.toInt = 0 ∧ ((x2).toInt < (x3).toInt ∨ (s0).toInt < (x2).toInt)) ∨ (v4.toInt = 1 ∧ (x3).toInt ≤ (x2).toInt ∧ (x2).toInt ≤ (s0).toInt) := p13
        clear p13
        have e17 : (m3.1 187 1).toInt = ((m1.1 187 1)).toInt := congrArg _ (g12.at (a := 187) (k := 1) (by decide))
        have e18 : (m3.1 187 0).toInt = ((m1.1 187 0)).toInt := congrArg _ (g12.at (a := 187) (k := 0) (by decide))
        refine ⟨v4, rfl, ?_⟩
        refine ⟨?_, ?_⟩
        · intro c19
          have k20 := y_ner (n := 0) rfl c19
          refine ⟨?_, ?_⟩
          · exact vpi (by omega) (by omega)
          · refine ⟨?_, ?_⟩
            · exact vpi (by omega) (by omega)
            · have w21 : WT (uI m3 193 x1.toNatClampNeg x2) := w_m3.n rfl
              have f21 : Fx (RS [20, 47]) m0 (uI m3 193 x1.toNatClampNeg x2) := f_m3.i rfl
              exact ⟨w21, f21, _, rfl⟩
        · intro c22
          have k23 := y_eqr (n := 0) rfl c22
          exact ⟨w_m3, f_m3, _, rfl⟩
set_option maxHeartbeats 4000000 in
theorem s_X12_law {ad : Nat → Nat} {d : Nat} {m : Wm} {x1 x2 : Int32} (w : WT m) : Ct ad μX12_law (d + 1) [.ref (ad 187), .int x1, .int x2] m (fun r m' => WT m' ∧ Fx (RS [20, 47]) m m' ∧ ∃ v : Int32, r = some (.int v)) := by
  have f : Fx (RS [20, 47]) m m := Fx.rf
  refine v_X12_law  ?_
  refine ⟨?_, ?_⟩
  · intro c1
    have k2 := y_ner (n := 1) rfl c1
    have w3 : WT (uI m 187 17 (0 : Int32)) := w.n rfl
    have f3 : Fx (RS [20, 47]) m (uI m 187 17 (0 : Int32)) := f.i rfl
    exact (l_X12_law (m0 := m) 1000000).1 _ _ _ _ w3 f3 (by show (0 : Int) ≤ (0 : Int); omega) (by show (0 : Int) ≤ (1 : Int); omega) (by show 0 * (x1).toInt + 2 < _; omega)
  · intro c4
    have k5 := y_eqr (n := 1) rfl c4
    have w6 : WT (uI m 187 17 (0 : Int32)) := w.n rfl
    have f6 : Fx (RS [20, 47]) m (uI m 187 17 (0 : Int32)) := f.i rfl
    exact (l_X12_law (m0 := m) 1000000).1 _ _ _ _ w6 f6 (by show (0 : Int) ≤ (1 : Int); omega) (by show (1 : Int) ≤ (1 : Int); omega) (by show 0 * (x1).toInt + 2 < _; omega)
set_option maxHeartbeats 4000000 in
theorem l_X12_sheet {ad : Nat → Nat} {d : Nat} {m0 : Wm}  : ∀ n : Nat, (∀ (m : Wm) (x1 x2 x3 x5 x6 x7 x8 : Int32), WT m → Fx (RS [20, 24, 29]) m0 m → (0 : Int) ≤ x1.toInt → x1.toInt ≤ (3 : Int) → (0 : Int) ≤ x8.toInt → x8.toInt ≤ (8 : Int) → (8 - x8.toInt) * 3 + 2 < (n : Int) → AW ad E0 μX12_sheet (d + 2) (fun r m' => WT m' ∧ Fx (RS [20, 24, 29]) m0 m' ∧ ∃ v : Int32, r = some (.int v)) 55 [(0, .ref (ad 187)), (1, .int x1), (2, .int x2), (3, .int x3), (5, .int x5), (6, .int x6), (7, .int x7), (8, .int x8)] [] m) ∧ (∀ (m : Wm) (x1 x2 x3 x5 x6 x7 x8 s0 : Int32), WT m → Fx (RS [20, 24, 29]) m0 m → (0 : Int) ≤ x1.toInt → x1.toInt ≤ (3 : Int) → (0 : Int) ≤ x8.toInt → x8.toInt ≤ (7 : Int) → (8 - x8.toInt) * 3 + 1 < (n : Int) → AW ad E0 μX12_sheet (d + 2) (fun r m' => WT m' ∧ Fx (RS [20, 24, 29]) m0 m' ∧ ∃ v : Int32, r = some (.int v)) 87 [(0, .ref (ad 187)), (1, .int x1), (2, .int x2), (3, .int x3), (5, .int x5), (6, .int x6), (7, .int x7), (8, .int x8)] [.int s0] m) ∧ (∀ (m : Wm) (x1 x2 x3 x5 x6 x7 x8 s0 s1 : Int32), WT m → Fx (RS [20, 24, 29]) m0 m → (0 : Int) ≤ x1.toInt → x1.toInt ≤ (3 : Int) → (0 : Int) ≤ x8.toInt → x8.toInt ≤ (7 : Int) → (0 : Int) ≤ s1.toInt → s1.toInt ≤ (31 : Int) → (8 - x8.toInt) * 3 < (n : Int) → AW ad E0 μX12_sheet (d + 2) (fun r m' => WT m' ∧ Fx (RS [20, 24, 29]) m0 m' ∧ ∃ v : Int32, r = some (.int v)) 125 [(0, .ref (ad 187)), (1, .int x1), (2, .int x2), (3, .int x3), (5, .int x5), (6, .int x6), (7, .int x7), (8, .int x8)] [.int s0, .int s1, .ref (ad 188)] m) := by
  intro n
  induction n with
  | zero =>
    refine ⟨?_, ?_, ?_⟩ <;> intros <;> exfalso <;> omega
  | succ n ih =>
    refine ⟨?_, ?_, ?_⟩
    · intro m x1 x2 x3 x5 x6 x7 x8 w f j1 j2 j3 j4 hn
      refine g_X12_sheet_55  ?_
      refine ⟨?_, ?_⟩
      · intro c1
        have r2 := w.at (a := 187) (k := 1) rfl
        have k3 := z_le c1
        refine ⟨?_, ?_⟩
        · intro c4
          have k5 := y_ner (n := 3) rfl c4
          have w6 : WT (uI m 187 30 (0 : Int32)) := w.t rfl (by show (0 : Int) ≤ (0 : Int); omega) (by show (0 : Int) ≤ 20; omega)
          have f6 : Fx (RS [20, 24, 29]) m0 (uI m 187 30 (0 : Int32)) := f.i rfl
          exact ⟨w6, f6, _, rfl⟩
        · intro c7
          have k8 := y_eqr (n := 3) rfl c7
          have w9 : WT (uI m 187 30 (0 : Int32)) := w.t rfl (by show (0 : Int) ≤ (0 : Int); omega) (by show (0 : Int) ≤ 20; omega)
          have f9 : Fx (RS [20, 24, 29]) m0 (uI m 187 30 (0 : Int32)) := f.i rfl
          exact ⟨w9, f9, _, rfl⟩
      · intro c10
        have r11 := w.at (a := 187) (k := 1) rfl
        have k12 := z_nle c10
        refine ⟨?_, ?_⟩
        · intro c13
          have k14 := y_ner (n := 0) rfl c13
          refine ⟨?_, ?_⟩
          · intro c15
            have k16 := y_ner (n := 1) rfl c15
            exact ih.2.1 _ _ _ _ _ _ _ _ _ w f (by show (0 : Int) ≤ (x1).toInt; omega) (by show (x1).toInt ≤ (3 : Int); omega) (by show (0 : Int) ≤ (x8).toInt; omega) (by show (x8).toInt ≤ (7 : Int); omega) (by show (8 - (x8).toInt) * 3 + 1 < _; omega)
          · intro c17
            have k18 := y_eqr (n := 1) rfl c17
            exact ih.2.1 _ _ _ _ _ _ _ _ _ w f (by show (0 : Int) ≤ (x1).toInt; omega) (by show (x1).toInt ≤ (3 : Int); omega) (by show (0 : Int) ≤ (x8).toInt; omega) (by show (x8).toInt ≤ (7 : Int); omega) (by show (8 - (x8).toInt) * 3 + 1 < _; omega)
        · intro c19
          have k20 := y_eqr (n := 0) rfl c19
          exact ih.2.1 _ _ _ _ _ _ _ _ _ w f (by show (0 : Int) ≤ (x1).toInt; omega) (by show (x1).toInt ≤ (3 : Int); omega) (by show (0 : Int) ≤ (x8).toInt; omega) (by show (x8).toInt ≤ (7 : Int); omega) (by show (8 - (x8).toInt) * 3 + 1 < _; omega)
    · intro m x1 x2 x3 x5 x6 x7 x8 s0 w f j1 j2 j3 j4 hn
      refine g_X12_sheet_87  ?_
      refine ⟨?_, ?_⟩
      · intro c1
        have k2 := y_eqr (n := 3) rfl c1
        have t3 := ti_mulc (c := 4) (y := (4 : Int32)) (x := x8) rfl (by omega)
        have t4 := ti_add (x := ((4 : Int32) * x8)) (y := x1) (by omega)
        exact ih.2.2 _ _ _ _ _ _ _ _ _ _ w f (by show (0 : Int) ≤ (x1).toInt; omega) (by show (x1).toInt ≤ (3 : Int); omega) (by show (0 : Int) ≤ (x8).toInt; omega) (by show (x8).toInt ≤ (7 : Int); omega) (by show (0 : Int) ≤ ((((4 : Int32) * x8) + x1)).toInt; omega) (by show ((((4 : Int32) * x8) + x1)).toInt ≤ (31 : Int); omega) (by show (8 - (x8).toInt) * 3 < _; omega)
      · intro c5
        have k6 := y_ner (n := 3) rfl c5
        refine ⟨?_, ?_⟩
        · intro c7
          have k8 := z_lt c7
          have t9 := ti_mulc (c := 4) (y := (4 : Int32)) (x := x8) rfl (by omega)
          have t10 := ti_add (x := ((4 : Int32) * x8)) (y := x1) (by omega)
          exact ih.2.2 _ _ _ _ _ _ _ _ _ _ w f (by show (0 : Int) ≤ (x1).toInt; omega) (by show (x1).toInt ≤ (3 : Int); omega) (by show (0 : Int) ≤ (x8).toInt; omega) (by show (x8).toInt ≤ (7 : Int); omega) (by show (0 : Int) ≤ ((((4 : Int32) * x8) + x1)).toInt; omega) (by show ((((4 : Int32) * x8) + x1)).toInt ≤ (31 : Int); omega) (by show (8 - (x8).toInt) * 3 < _; omega)
        · intro c11
          have k12 := z_nlt c11
          have t13 := ti_mulc (c := 4) (y := (4 : Int32)) (x := x8) rfl (by omega)
          have t14 := ti_add (x := ((4 : Int32) * x8)) (y := x1) (by omega)
          exact ih.2.2 _ _ _ _ _ _ _ _ _ _ w f (by show (0 : Int) ≤ (x1).toInt; omega) (by show (x1).toInt ≤ (3 : Int); omega) (by show (0 : Int) ≤ (x8).toInt; omega) (by show (x8).toInt ≤ (7 : Int); omega) (by show (0 : Int) ≤ ((((4 : Int32) * x8) + x1)).toInt; omega) (by show ((((4 : Int32) * x8) + x1)).toInt ≤ (31 : Int); omega) (by show (8 - (x8).toInt) * 3 < _; omega)
    · intro m x1 x2 x3 x5 x6 x7 x8 s0 s1 w f j1 j2 j3 j4 j5 j6 hn
      refine g_X12_sheet_125 ly_188 ?_
      refine ⟨?_, ?_⟩
      · exact vpi (by omega) (by omega)
      · refine ⟨?_, ?_⟩
        · have t1 := ti_mulc (c := 4) (y := (4 : Int32)) (x := x8) rfl (by omega)
          have t2 := ti_add (x := ((4 : Int32) * x8)) (y := x1) (by omega)
          exact vpi (by omega) (by omega)
        · have w3 : WT (uI m 188 s1.toNatClampNeg s0) := w.n rfl
          have f3 : Fx (RS [20, 24, 29]) m0 (uI m 188 s1.toNatClampNeg s0) := f.i rfl
          have t4 := ti_addc (x := x8) (y := (1 : Int32)) (c := 1) rfl (by omega)
          exact ih.1 _ _ _ _ _ _ _ _ w3 f3 (by show (0 : Int) ≤ (x1).toInt; omega) (by show (x1).toInt ≤ (3 : Int); omega) (by show (0 : Int) ≤ ((x8 + (1 : Int32))).toInt; omega) (by show ((x8 + (1 : Int32))).toInt ≤ (8 : Int); omega) (by show (8 - ((x8 + (1 : Int32))).toInt) * 3 + 2 < _; omega)
set_option maxHeartbeats 4000000 in
theorem s_X12_sheet {ad : Nat → Nat} {d : Nat} {m : Wm} {x1 x2 x3 x4 x5 : Int32} (w : WT m) : Ct ad μX12_sheet (d + 2) [.ref (ad 187), .int x1, .int x2, .int x3, .int x4, .int x5] m (fun r m' => WT m' ∧ Fx (RS [20, 24, 29]) m m' ∧ ∃ v : Int32, r = some (.int v)) := by
  have f : Fx (RS [20, 24, 29]) m m := Fx.rf
  refine v_X12_sheet  ?_
  have w1 : WT (uI m 187 17 (0 : Int32)) := w.n rfl
  have f1 : Fx (RS [20, 24, 29]) m (uI m 187 17 (0 : Int32)) := f.i rfl
  refine (s_X12_isArt w1).to ?_
  rintro _ m1 ⟨w_m1, g2, v2, rfl, p4, p5, p3⟩
  have f_m1 : Fx (RS [20, 24, 29]) m m1 := f1.tr g2 (RS_sub rfl)
  have p6 : (v2.toInt = 0 ∧ ((x1).toInt < 0 ∨ ((m.1 187 0)).toInt ≤ (x1).toInt)) ∨ (v2.toInt = 1 ∧ 0 ≤ (x1).toInt ∧ (x1).toInt < ((m.1 187 0)).toInt) := p3
  clear p3
  have e7 : (m1.1 187 1).toInt = ((m.1 187 1)).toInt := congrArg _ (g2.at (a := 187) (k := 1) (by decide))
  have e8 : (m1.1 187 0).toInt = ((m.1 187 0)).toInt := congrArg _ (g2.at (a := 187) (k := 0) (by decide))
  refine ⟨v2, rfl, ?_⟩
  refine ⟨?_, ?_⟩
  · intro c9
    have k10 := y_eqr (n := 0) rfl c9
    exact ⟨w_m1, f_m1, _, rfl⟩
  · intro c11
    have k12 := y_ner (n := 0) rfl c11
    have r13 := w.at (a := 187) (k := 0) rfl
    refine (s_X12_in (x := x2) (lo := (0 : Int32)) (hi := (3 : Int32)) w_m1 rfl rfl).to ?_
    rintro _ m3 ⟨w_m3, g14, v4, rfl, p16, p17, p15⟩
    have f_m3 : Fx (RS [20, 24, 29]) m m3 := f_m1.tr g14 (RS_sub rfl)
    have p18 : (v4.toInt = 0 ∧ ((x2).toInt < (0 : Int) ∨ (3 : Int) < (x2).toInt)) ∨ (v4.toInt = 1 ∧ (0 : Int) ≤ (x2).toInt ∧ (x2).toInt ≤ (3 : Int)) := p15
    clear p15
    have e19 : (m3.1 187 1).toInt = ((m1.1 187 1)).toInt := congrArg _ (g14.at (a := 187) (k := 1) (by decide))
    have e20 : (m3.1 187 0).toInt = ((m1.1 187 0)).toInt := congrArg _ (g14.at (a := 187) (k := 0) (by decide))
    refine ⟨v4, rfl, ?_⟩
    refine ⟨?_, ?_⟩
    · intro c21
      have k22 := y_eqr (n := 0) rfl c21
      exact ⟨w_m3, f_m3, _, rfl⟩
    · intro c23
      have k24 := y_ner (n := 0) rfl c23
      refine ⟨?_, ?_⟩
      · intro c25
        have k26 := y_ler (n := 8) rfl c25
        refine ⟨?_, ?_⟩
        · intro c27
          have k28 := y_lel (n := 3) rfl c27
          exact (l_X12_sheet (m0 := m) 1000000).1 _ _ _ _ _ _ _ _ w_m3 f_m3 (by show (0 : Int) ≤ (x1).toInt; omega) (by show (x1).toInt ≤ (3 : Int); omega) (by show (0 : Int) ≤ (0 : Int); omega) (by show (0 : Int) ≤ (8 : Int); omega) (by show (8 - (0 : Int)) * 3 + 2 < _; omega)
        · intro c29
          have k30 := y_nlel (n := 3) rfl c29
          refine ⟨?_, ?_⟩
          · intro c31
            have k32 := y_lel (n := 0) rfl c31
            exact (l_X12_sheet (m0 := m) 1000000).1 _ _ _ _ _ _ _ _ w_m3 f_m3 (by show (0 : Int) ≤ (x1).toInt; omega) (by show (x1).toInt ≤ (3 : Int); omega) (by show (0 : Int) ≤ (0 : Int); omega) (by show (0 : Int) ≤ (8 : Int); omega) (by show (8 - (0 : Int)) * 3 + 2 < _; omega)
          · intro c33
            have k34 := y_nlel (n := 0) rfl c33
            exact ⟨w_m3, f_m3, _, rfl⟩
      · intro c35
        have k36 := y_nler (n := 8) rfl c35
        exact ⟨w_m3, f_m3, _, rfl⟩
set_option maxHeartbeats 4000000 in
theorem s_X12_ill {ad : Nat → Nat} {d : Nat} {m : Wm} {x1 x2 : Int32} (w : WT m) : Ct ad μX12_ill (d + 2) [.ref (ad 187), .int x1, .int x2] m (fun r m' => WT m' ∧ Fx (RS [20, 46]) m m' ∧ ∃ v : Int32, r = some (.int v) ∧ (0 : Int) ≤ v.toInt ∧ v.toInt ≤ 1 ∧ ((v.toInt = 0 ∧ (x1.toInt < 0 ∨ (m.1 187 1).toInt ≤ x1.toInt)) ∨ (v.toInt = 1 ∧ 0 ≤ x1.toInt ∧ x1.toInt < (m.1 187 1).toInt))) := by
  have f : Fx (RS [20, 46]) m m := Fx.rf
  refine v_X12_ill  ?_
  have w1 : WT (uI m 187 17 (0 : Int32)) := w.n rfl
  have f1 : Fx (RS [20, 46]) m (uI m 187 17 (0 : Int32)) := f.i rfl
  refine (s_X12_isSide w1).to ?_
  rintro _ m1 ⟨w_m1, g2, v2, rfl, p4, p5, p3⟩
  have f_m1 : Fx (RS [20, 46]) m m1 := f1.tr g2 (RS_sub rfl)
  have p6 : (v2.toInt = 0 ∧ ((x1).toInt < 0 ∨ ((m.1 187 1)).toInt ≤ (x1).toInt)) ∨ (v2.toInt = 1 ∧ 0 ≤ (x1).toInt ∧ (x1).toInt < ((m.1 187 1)).toInt) := p3
  clear p3
  have e7 : (m1.1 187 1).toInt = ((m.1 187 1)).toInt := congrArg _ (g2.at (a := 187) (k := 1) (by decide))
  have e8 : (m1.1 187 0).toInt = ((m.1 187 0)).toInt := congrArg _ (g2.at (a := 187) (k := 0) (by decide))
  refine ⟨v2, rfl, ?_⟩
  refine ⟨?_, ?_⟩
  · intro c9
    have k10 := y_ner (n := 0) rfl c9
    have r11 := w.at (a := 187) (k := 1) rfl
    refine ⟨?_, ?_⟩
    · exact vpi (by omega) (by omega)
    · have w12 : WT (uI m1 189 x1.toNatClampNeg (vp_nar .boolean x2)) := w_m1.n rfl
      have f12 : Fx (RS [20, 46]) m (uI m1 189 x1.toNatClampNeg (vp_nar .boolean x2)) := f_m1.i rfl
      exact ⟨w12, f12, _, rfl, (by show (0 : Int) ≤ (1 : Int); omega), (by show (1 : Int) ≤ (1 : Int); omega), (by show ((1 : Int) = 0 ∧ (x1.toInt < 0 ∨ (m.1 187 1).toInt ≤ x1.toInt)) ∨ ((1 : Int) = 1 ∧ 0 ≤ x1.toInt ∧ x1.toInt < (m.1 187 1).toInt); omega)⟩
  · intro c13
    have k14 := y_eqr (n := 0) rfl c13
    exact ⟨w_m1, f_m1, _, rfl, (by show (0 : Int) ≤ (0 : Int); omega), (by show (0 : Int) ≤ (1 : Int); omega), (by show ((0 : Int) = 0 ∧ (x1.toInt < 0 ∨ (m.1 187 1).toInt ≤ x1.toInt)) ∨ ((0 : Int) = 1 ∧ 0 ≤ x1.toInt ∧ x1.toInt < (m.1 187 1).toInt); omega)⟩
end
section
/-! SAFETY OF THE MODEL, BY PROGRAM (winner .. goGame) -/
set_option maxHeartbeats 4000000 in
theorem s_X12_winner {ad : Nat → Nat} {d : Nat} {m : Wm} {x1 x2 x3 : Int32} (w : WT m) (i1 : (0 : Int) ≤ x1.toInt) (i2 : x1.toInt ≤ (7 : Int)) (i3 : (0 : Int) ≤ x2.toInt) (i4 : x2.toInt ≤ (7 : Int)) : Ct ad μX12_winner (d + 169) [.ref (ad 187), .int x1, .int x2, .int x3] m (fun r m' => WT m' ∧ Fx (RS [22, 28]) m m' ∧ ∃ v : Int32, r = some (.int v) ∧ (0 : Int) ≤ v.toInt ∧ v.toInt ≤ 2) := by
  have f : Fx (RS [22, 28]) m m := Fx.rf
  refine v_X12_winner  ?_
  refine ⟨?_, ?_⟩
  · intro c1
    have k2 := y_ner (n := 1) rfl c1
    refine ⟨?_, ?_⟩
    · intro c3
      have k4 := y_ner (n := 2) rfl c3
      refine ⟨?_, ?_⟩
      · intro c5
        have k6 := y_ner (n := 3) rfl c5
        refine (s_X12_power w (by show (0 : Int) ≤ (x1).toInt; omega) (by show (x1).toInt ≤ (7 : Int); omega)).to ?_
        rintro _ m1 ⟨w_m1, g7, v2, rfl⟩
        have f_m1 : Fx (RS [22, 28]) m m1 := f.tr g7 (RS_sub rfl)
        have e8 : (m1.1 187 1).toInt = ((m.1 187 1)).toInt := congrArg _ (g7.at (a := 187) (k := 1) (by decide))
        have e9 : (m1.1 187 0).toInt = ((m.1 187 0)).toInt := congrArg _ (g7.at (a := 187) (k := 0) (by decide))
        refine ⟨v2, rfl, ?_⟩
        refine (s_X12_power w_m1 (by show (0 : Int) ≤ (x2).toInt; omega) (by show (x2).toInt ≤ (7 : Int); omega)).to ?_
        rintro _ m3 ⟨w_m3, g10, v4, rfl⟩
        have f_m3 : Fx (RS [22, 28]) m m3 := f_m1.tr g10 (RS_sub rfl)
        have e11 : (m3.1 187 1).toInt = ((m1.1 187 1)).toInt := congrArg _ (g10.at (a := 187) (k := 1) (by decide))
        have e12 : (m3.1 187 0).toInt = ((m1.1 187 0)).toInt := congrArg _ (g10.at (a := 187) (k := 0) (by decide))
        refine ⟨v4, rfl, ?_⟩
        refine ⟨?_, ?_⟩
        · intro c13
          have k14 := z_le c13
          refine ⟨?_, ?_⟩
          · intro c15
            have k16 := z_le c15
            exact ⟨w_m3, f_m3, _, rfl, (by show (0 : Int) ≤ (2 : Int); omega), (by show (2 : Int) ≤ (2 : Int); omega)⟩
          · intro c17
            have k18 := z_nle c17
            exact ⟨w_m3, f_m3, _, rfl, (by show (0 : Int) ≤ (1 : Int); omega), (by show (1 : Int) ≤ (2 : Int); omega)⟩
        · intro c19
          have k20 := z_nle c19
          exact ⟨w_m3, f_m3, _, rfl, (by show (0 : Int) ≤ (0 : Int); omega), (by show (0 : Int) ≤ (2 : Int); omega)⟩
      · intro c21
        have k22 := y_eqr (n := 3) rfl c21
        exact ⟨w, f, _, rfl, (by show (0 : Int) ≤ (2 : Int); omega), (by show (2 : Int) ≤ (2 : Int); omega)⟩
    · intro c23
      have k24 := y_eqr (n := 2) rfl c23
      exact ⟨w, f, _, rfl, (by show (0 : Int) ≤ (0 : Int); omega), (by show (0 : Int) ≤ (2 : Int); omega)⟩
  · intro c25
    have k26 := y_eqr (n := 1) rfl c25
    exact ⟨w, f, _, rfl, (by show (0 : Int) ≤ (1 : Int); omega), (by show (1 : Int) ≤ (2 : Int); omega)⟩
set_option maxHeartbeats 4000000 in
theorem l_X12_artOf {ad : Nat → Nat} {d : Nat} {m0 : Wm}  : ∀ n : Nat, (∀ (m : Wm) (x1 x2 x3 x4 x5 : Int32), WT m → Fx (RS []) m0 m → (0 : Int) ≤ x1.toInt → x1.toInt ≤ (7 : Int) → (0 : Int) ≤ x2.toInt → x2.toInt ≤ (7 : Int) → (-1 : Int) ≤ x3.toInt → x3.toInt ≤ (3 : Int) → (0 : Int) ≤ x5.toInt → x5.toInt ≤ (4 : Int) → 4 - x5.toInt < (n : Int) → AW ad E0 μX12_artOf d (fun r m' => WT m' ∧ Fx (RS []) m0 m' ∧ ∃ v : Int32, r = some (.int v) ∧ (-1 : Int) ≤ v.toInt ∧ v.toInt ≤ 3) 8 [(0, .ref (ad 187)), (1, .int x1), (2, .int x2), (3, .int x3), (4, .int x4), (5, .int x5)] [] m) := by
  intro n
  induction n with
  | zero =>
    intros
    exfalso
    omega
  | succ n ih =>
    intro m x1 x2 x3 x4 x5 w f j1 j2 j3 j4 j5 j6 j7 j8 hn
    refine g_X12_artOf_8  ?_
    refine ⟨?_, ?_⟩
    · intro c1
      have r2 := w.at (a := 187) (k := 0) rfl
      have k3 := z_le c1
      exact ⟨w, f, _, rfl, (by show (-1 : Int) ≤ (x3).toInt; omega), (by show (x3).toInt ≤ (3 : Int); omega)⟩
    · intro c4
      have r5 := w.at (a := 187) (k := 0) rfl
      have k6 := z_nle c4
      refine ⟨?_, ?_⟩
      · have t7 := ti_mulc (c := 4) (y := (4 : Int32)) (x := x1) rfl (by omega)
        have t8 := ti_add (x := ((4 : Int32) * x1)) (y := x5) (by omega)
        exact vpi (by omega) (by omega)
      · refine ⟨?_, ?_⟩
        · have t9 := ti_mulc (c := 4) (y := (4 : Int32)) (x := x2) rfl (by omega)
          have t10 := ti_add (x := ((4 : Int32) * x2)) (y := x5) (by omega)
          exact vpi (by omega) (by omega)
        · refine ⟨?_, ?_⟩
          · intro c11
            have k12 := z_lt c11
            have t13 := ti_addc (x := x5) (y := (1 : Int32)) (c := 1) rfl (by omega)
            exact ih _ _ _ _ _ _ w f (by show (0 : Int) ≤ (x1).toInt; omega) (by show (x1).toInt ≤ (7 : Int); omega) (by show (0 : Int) ≤ (x2).toInt; omega) (by show (x2).toInt ≤ (7 : Int); omega) (by show (-1 : Int) ≤ (x5).toInt; omega) (by show (x5).toInt ≤ (3 : Int); omega) (by show (0 : Int) ≤ ((x5 + (1 : Int32))).toInt; omega) (by show ((x5 + (1 : Int32))).toInt ≤ (4 : Int); omega) (by show 4 - ((x5 + (1 : Int32))).toInt < _; omega)
          · intro c14
            have k15 := z_nlt c14
            have t16 := ti_addc (x := x5) (y := (1 : Int32)) (c := 1) rfl (by omega)
            exact ih _ _ _ _ _ _ w f (by show (0 : Int) ≤ (x1).toInt; omega) (by show (x1).toInt ≤ (7 : Int); omega) (by show (0 : Int) ≤ (x2).toInt; omega) (by show (x2).toInt ≤ (7 : Int); omega) (by show (-1 : Int) ≤ (x3).toInt; omega) (by show (x3).toInt ≤ (3 : Int); omega) (by show (0 : Int) ≤ ((x5 + (1 : Int32))).toInt; omega) (by show ((x5 + (1 : Int32))).toInt ≤ (4 : Int); omega) (by show 4 - ((x5 + (1 : Int32))).toInt < _; omega)
set_option maxHeartbeats 4000000 in
theorem s_X12_artOf {ad : Nat → Nat} {d : Nat} {m : Wm} {x1 x2 : Int32} (w : WT m) (i1 : (0 : Int) ≤ x1.toInt) (i2 : x1.toInt ≤ (7 : Int)) (i3 : (0 : Int) ≤ x2.toInt) (i4 : x2.toInt ≤ (7 : Int)) : Ct ad μX12_artOf d [.ref (ad 187), .int x1, .int x2] m (fun r m' => WT m' ∧ Fx (RS []) m m' ∧ ∃ v : Int32, r = some (.int v) ∧ (-1 : Int) ≤ v.toInt ∧ v.toInt ≤ 3) := by
  have f : Fx (RS []) m m := Fx.rf
  refine v_X12_artOf  ?_
  exact (l_X12_artOf (m0 := m) 1000000) _ _ _ _ _ _ w f (by show (0 : Int) ≤ (x1).toInt; omega) (by show (x1).toInt ≤ (7 : Int); omega) (by show (0 : Int) ≤ (x2).toInt; omega) (by show (x2).toInt ≤ (7 : Int); omega) (by show (-1 : Int) ≤ (-1 : Int); omega) (by show (-1 : Int) ≤ (3 : Int); omega) (by show (0 : Int) ≤ (0 : Int); omega) (by show (0 : Int) ≤ (4 : Int); omega) (by show 4 - (0 : Int) < _; omega)
set_option maxHeartbeats 4000000 in
theorem s_X12_gainOf {ad : Nat → Nat} {d : Nat} {m : Wm} {x1 x2 x3 : Int32} (w : WT m) (i1 : (0 : Int) ≤ x1.toInt) (i2 : x1.toInt ≤ (7 : Int)) (i3 : (0 : Int) ≤ x2.toInt) (i4 : x2.toInt ≤ (7 : Int)) (i5 : (0 : Int) ≤ x3.toInt) (i6 : x3.toInt ≤ (3 : Int)) : Ct ad μX12_gainOf (d + 1) [.ref (ad 187), .int x1, .int x2, .int x3] m (fun r m' => WT m' ∧ Fx (RS []) m m' ∧ ∃ v : Int32, r = some (.int v)) := by
  have f : Fx (RS []) m m := Fx.rf
  refine v_X12_gainOf  ?_
  refine ⟨?_, ?_⟩
  · exact vpi (by omega) (by omega)
  · refine ⟨?_, ?_⟩
    · intro c1
      have k2 := y_eqr (n := 0) rfl c1
      refine ⟨?_, ?_⟩
      · have t3 := ti_mulc (c := 4) (y := (4 : Int32)) (x := x1) rfl (by omega)
        have t4 := ti_add (x := ((4 : Int32) * x1)) (y := x3) (by omega)
        exact vpi (by omega) (by omega)
      · refine ⟨?_, ?_⟩
        · have t5 := ti_mulc (c := 4) (y := (4 : Int32)) (x := x2) rfl (by omega)
          have t6 := ti_add (x := ((4 : Int32) * x2)) (y := x3) (by omega)
          exact vpi (by omega) (by omega)
        · have t7 := ti_ltv (a := ((m.1 188 ((((4 : Int32) * x1) + x3).toNatClampNeg)) - (m.1 188 ((((4 : Int32) * x2) + x3).toNatClampNeg)))) (b := (m.1 193 ((1 : Int32).toNatClampNeg))) (c := ((m.1 188 ((((4 : Int32) * x1) + x3).toNatClampNeg)) - (m.1 188 ((((4 : Int32) * x2) + x3).toNatClampNeg)))) (d := (m.1 193 ((1 : Int32).toNatClampNeg))) (A := ((m.1 188 ((((4 : Int32) * x1) + x3).toNatClampNeg)) - (m.1 188 ((((4 : Int32) * x2) + x3).toNatClampNeg))).toInt) (B := (m.1 193 ((1 : Int32).toNatClampNeg)).toInt) (C := ((m.1 188 ((((4 : Int32) * x1) + x3).toNatClampNeg)) - (m.1 188 ((((4 : Int32) * x2) + x3).toNatClampNeg))).toInt) (D := (m.1 193 ((1 : Int32).toNatClampNeg)).toInt) rfl rfl rfl rfl
          exact ⟨w, f, _, rfl⟩
    · intro c8
      have k9 := y_ner (n := 0) rfl c8
      exact ⟨w, f, _, rfl⟩
set_option maxHeartbeats 4000000 in
theorem s_X12_teach {ad : Nat → Nat} {d : Nat} {m : Wm} {x1 x2 : Int32} (w : WT m) (i1 : (0 : Int) ≤ x1.toInt) (i2 : x1.toInt ≤ (7 : Int)) (i3 : (0 : Int) ≤ x2.toInt) (i4 : x2.toInt ≤ (7 : Int)) : Ct ad μX12_teach (d + 2) [.ref (ad 187), .int x1, .int x2] m (fun r m' => WT m' ∧ Fx (RS [24]) m m' ∧ r = none) := by
  have f : Fx (RS [24]) m m := Fx.rf
  refine v_X12_teach  ?_
  refine (s_X12_artOf w (by show (0 : Int) ≤ (x1).toInt; omega) (by show (x1).toInt ≤ (7 : Int); omega) (by show (0 : Int) ≤ (x2).toInt; omega) (by show (x2).toInt ≤ (7 : Int); omega)).to ?_
  rintro _ m1 ⟨w_m1, g1, v2, rfl, p2, p3⟩
  have f_m1 : Fx (RS [24]) m m1 := f.tr g1 (RS_sub rfl)
  have e4 : (m1.1 187 1).toInt = ((m.1 187 1)).toInt := congrArg _ (g1.at (a := 187) (k := 1) (by decide))
  have e5 : (m1.1 187 0).toInt = ((m.1 187 0)).toInt := congrArg _ (g1.at (a := 187) (k := 0) (by decide))
  refine ⟨v2, rfl, ?_⟩
  refine ⟨?_, ?_⟩
  · intro c6
    have k7 := y_ner (n := -1) rfl c6
    refine (s_X12_gainOf w_m1 (by show (0 : Int) ≤ (x1).toInt; omega) (by show (x1).toInt ≤ (7 : Int); omega) (by show (0 : Int) ≤ (x2).toInt; omega) (by show (x2).toInt ≤ (7 : Int); omega) (by show (0 : Int) ≤ (v2).toInt; omega) (by show (v2).toInt ≤ (3 : Int); omega)).to ?_
    rintro _ m3 ⟨w_m3, g8, v4, rfl⟩
    have f_m3 : Fx (RS [24]) m m3 := f_m1.tr g8 (RS_sub rfl)
    have e9 : (m3.1 187 1).toInt = ((m1.1 187 1)).toInt := congrArg _ (g8.at (a := 187) (k := 1) (by decide))
    have e10 : (m3.1 187 0).toInt = ((m1.1 187 0)).toInt := congrArg _ (g8.at (a := 187) (k := 0) (by decide))
    refine ⟨v4, rfl, ?_⟩
    refine ⟨?_, ?_⟩
    · have t11 := ti_mulc (c := 4) (y := (4 : Int32)) (x := x2) rfl (by omega)
      have t12 := ti_add (x := ((4 : Int32) * x2)) (y := v2) (by omega)
      exact vpi (by omega) (by omega)
    · refine ⟨?_, ?_⟩
      · have t13 := ti_mulc (c := 4) (y := (4 : Int32)) (x := x2) rfl (by omega)
        have t14 := ti_add (x := ((4 : Int32) * x2)) (y := v2) (by omega)
        exact vpi (by omega) (by omega)
      · refine ⟨?_, ?_⟩
        · exact vpi (by omega) (by omega)
        · refine ⟨?_, ?_⟩
          · exact vpi (by omega) (by omega)
          · refine ⟨?_, ?_⟩
            · have t15 := ti_mulc (c := 4) (y := (4 : Int32)) (x := x1) rfl (by omega)
              have t16 := ti_add (x := ((4 : Int32) * x1)) (y := v2) (by omega)
              exact vpi (by omega) (by omega)
            · refine ⟨?_, ?_⟩
              · have t17 := ti_mulc (c := 4) (y := (4 : Int32)) (x := x1) rfl (by omega)
                have t18 := ti_add (x := ((4 : Int32) * x1)) (y := v2) (by omega)
                exact vpi (by omega) (by omega)
              · have w19 : WT (uI m3 188 ((((4 : Int32) * x2) + v2).toNatClampNeg) ((m3.1 188 ((((4 : Int32) * x2) + v2).toNatClampNeg)) + v4)) := w_m3.n rfl
                have f19 : Fx (RS [24]) m (uI m3 188 ((((4 : Int32) * x2) + v2).toNatClampNeg) ((m3.1 188 ((((4 : Int32) * x2) + v2).toNatClampNeg)) + v4)) := f_m3.i rfl
                have w20 : WT (uI (uI m3 188 ((((4 : Int32) * x2) + v2).toNatClampNeg) ((m3.1 188 ((((4 : Int32) * x2) + v2).toNatClampNeg)) + v4)) 191 x1.toNatClampNeg (((uI m3 188 ((((4 : Int32) * x2) + v2).toNatClampNeg) ((m3.1 188 ((((4 : Int32) * x2) + v2).toNatClampNeg)) + v4)).1 191 x1.toNatClampNeg) + v4)) := w19.n rfl
                have f20 : Fx (RS [24]) m (uI (uI m3 188 ((((4 : Int32) * x2) + v2).toNatClampNeg) ((m3.1 188 ((((4 : Int32) * x2) + v2).toNatClampNeg)) + v4)) 191 x1.toNatClampNeg (((uI m3 188 ((((4 : Int32) * x2) + v2).toNatClampNeg) ((m3.1 188 ((((4 : Int32) * x2) + v2).toNatClampNeg)) + v4)).1 191 x1.toNatClampNeg) + v4)) := f19.i rfl
                have w21 : WT (uI (uI (uI m3 188 ((((4 : Int32) * x2) + v2).toNatClampNeg) ((m3.1 188 ((((4 : Int32) * x2) + v2).toNatClampNeg)) + v4)) 191 x1.toNatClampNeg (((uI m3 188 ((((4 : Int32) * x2) + v2).toNatClampNeg) ((m3.1 188 ((((4 : Int32) * x2) + v2).toNatClampNeg)) + v4)).1 191 x1.toNatClampNeg) + v4)) 188 ((((4 : Int32) * x1) + v2).toNatClampNeg) (if (0 : Int32) < (if ((((uI (uI m3 188 ((((4 : Int32) * x2) + v2).toNatClampNeg) ((m3.1 188 ((((4 : Int32) * x2) + v2).toNatClampNeg)) + v4)) 191 x1.toNatClampNeg (((uI m3 188 ((((4 : Int32) * x2) + v2).toNatClampNeg) ((m3.1 188 ((((4 : Int32) * x2) + v2).toNatClampNeg)) + v4)).1 191 x1.toNatClampNeg) + v4)).1 188 ((((4 : Int32) * x1) + v2).toNatClampNeg)) + ((uI (uI m3 188 ((((4 : Int32) * x2) + v2).toNatClampNeg) ((m3.1 188 ((((4 : Int32) * x2) + v2).toNatClampNeg)) + v4)) 191 x1.toNatClampNeg (((uI m3 188 ((((4 : Int32) * x2) + v2).toNatClampNeg) ((m3.1 188 ((((4 : Int32) * x2) + v2).toNatClampNeg)) + v4)).1 191 x1.toNatClampNeg) + v4)).1 193 ((2 : Int32).toNatClampNeg))) - (1 : Int32)) < (7 : Int32) then ((((uI (uI m3 188 ((((4 : Int32) * x2) + v2).toNatClampNeg) ((m3.1 188 ((((4 : Int32) * x2) + v2).toNatClampNeg)) + v4)) 191 x1.toNatClampNeg (((uI m3 188 ((((4 : Int32) * x2) + v2).toNatClampNeg) ((m3.1 188 ((((4 : Int32) * x2) + v2).toNatClampNeg)) + v4)).1 191 x1.toNatClampNeg) + v4)).1 188 ((((4 : Int32) * x1) + v2).toNatClampNeg)) + ((uI (uI m3 188 ((((4 : Int32) * x2) + v2).toNatClampNeg) ((m3.1 188 ((((4 : Int32) * x2) + v2).toNatClampNeg)) + v4)) 191 x1.toNatClampNeg (((uI m3 188 ((((4 : Int32) * x2) + v2).toNatClampNeg) ((m3.1 188 ((((4 : Int32) * x2) + v2).toNatClampNeg)) + v4)).1 191 x1.toNatClampNeg) + v4)).1 193 ((2 : Int32).toNatClampNeg))) - (1 : Int32)) else (7 : Int32)) then (if ((((uI (uI m3 188 ((((4 : Int32) * x2) + v2).toNatClampNeg) ((m3.1 188 ((((4 : Int32) * x2) + v2).toNatClampNeg)) + v4)) 191 x1.toNatClampNeg (((uI m3 188 ((((4 : Int32) * x2) + v2).toNatClampNeg) ((m3.1 188 ((((4 : Int32) * x2) + v2).toNatClampNeg)) + v4)).1 191 x1.toNatClampNeg) + v4)).1 188 ((((4 : Int32) * x1) + v2).toNatClampNeg)) + ((uI (uI m3 188 ((((4 : Int32) * x2) + v2).toNatClampNeg) ((m3.1 188 ((((4 : Int32) * x2) + v2).toNatClampNeg)) + v4)) 191 x1.toNatClampNeg (((uI m3 188 ((((4 : Int32) * x2) + v2).toNatClampNeg) ((m3.1 188 ((((4 : Int32) * x2) + v2).toNatClampNeg)) + v4)).1 191 x1.toNatClampNeg) + v4)).1 193 ((2 : Int32).toNatClampNeg))) - (1 : Int32)) < (7 : Int32) then ((((uI (uI m3 188 ((((4 : Int32) * x2) + v2).toNatClampNeg) ((m3.1 188 ((((4 : Int32) * x2) + v2).toNatClampNeg)) + v4)) 191 x1.toNatClampNeg (((uI m3 188 ((((4 : Int32) * x2) + v2).toNatClampNeg) ((m3.1 188 ((((4 : Int32) * x2) + v2).toNatClampNeg)) + v4)).1 191 x1.toNatClampNeg) + v4)).1 188 ((((4 : Int32) * x1) + v2).toNatClampNeg)) + ((uI (uI m3 188 ((((4 : Int32) * x2) + v2).toNatClampNeg) ((m3.1 188 ((((4 : Int32) * x2) + v2).toNatClampNeg)) + v4)) 191 x1.toNatClampNeg (((uI m3 188 ((((4 : Int32) * x2) + v2).toNatClampNeg) ((m3.1 188 ((((4 : Int32) * x2) + v2).toNatClampNeg)) + v4)).1 191 x1.toNatClampNeg) + v4)).1 193 ((2 : Int32).toNatClampNeg))) - (1 : Int32)) else (7 : Int32)) else (0 : Int32))) := w20.n rfl
                have f21 : Fx (RS [24]) m (uI (uI (uI m3 188 ((((4 : Int32) * x2) + v2).toNatClampNeg) ((m3.1 188 ((((4 : Int32) * x2) + v2).toNatClampNeg)) + v4)) 191 x1.toNatClampNeg (((uI m3 188 ((((4 : Int32) * x2) + v2).toNatClampNeg) ((m3.1 188 ((((4 : Int32) * x2) + v2).toNatClampNeg)) + v4)).1 191 x1.toNatClampNeg) + v4)) 188 ((((4 : Int32) * x1) + v2).toNatClampNeg) (if (0 : Int32) < (if ((((uI (uI m3 188 ((((4 : Int32) * x2) + v2).toNatClampNeg) ((m3.1 188 ((((4 : Int32) * x2) + v2).toNatClampNeg)) + v4)) 191 x1.toNatClampNeg (((uI m3 188 ((((4 : Int32) * x2) + v2).toNatClampNeg) ((m3.1 188 ((((4 : Int32) * x2) + v2).toNatClampNeg)) + v4)).1 191 x1.toNatClampNeg) + v4)).1 188 ((((4 : Int32) * x1) + v2).toNatClampNeg)) + ((uI (uI m3 188 ((((4 : Int32) * x2) + v2).toNatClampNeg) ((m3.1 188 ((((4 : Int32) * x2) + v2).toNatClampNeg)) + v4)) 191 x1.toNatClampNeg (((uI m3 188 ((((4 : Int32) * x2) + v2).toNatClampNeg) ((m3.1 188 ((((4 : Int32) * x2) + v2).toNatClampNeg)) + v4)).1 191 x1.toNatClampNeg) + v4)).1 193 ((2 : Int32).toNatClampNeg))) - (1 : Int32)) < (7 : Int32) then ((((uI (uI m3 188 ((((4 : Int32) * x2) + v2).toNatClampNeg) ((m3.1 188 ((((4 : Int32) * x2) + v2).toNatClampNeg)) + v4)) 191 x1.toNatClampNeg (((uI m3 188 ((((4 : Int32) * x2) + v2).toNatClampNeg) ((m3.1 188 ((((4 : Int32) * x2) + v2).toNatClampNeg)) + v4)).1 191 x1.toNatClampNeg) + v4)).1 188 ((((4 : Int32) * x1) + v2).toNatClampNeg)) + ((uI (uI m3 188 ((((4 : Int32) * x2) + v2).toNatClampNeg) ((m3.1 188 ((((4 : Int32) * x2) + v2).toNatClampNeg)) + v4)) 191 x1.toNatClampNeg (((uI m3 188 ((((4 : Int32) * x2) + v2).toNatClampNeg) ((m3.1 188 ((((4 : Int32) * x2) + v2).toNatClampNeg)) + v4)).1 191 x1.toNatClampNeg) + v4)).1 193 ((2 : Int32).toNatClampNeg))) - (1 : Int32)) else (7 : Int32)) then (if ((((uI (uI m3 188 ((((4 : Int32) * x2) + v2).toNatClampNeg) ((m3.1 188 ((((4 : Int32) * x2) + v2).toNatClampNeg)) + v4)) 191 x1.toNatClampNeg (((uI m3 188 ((((4 : Int32) * x2) + v2).toNatClampNeg) ((m3.1 188 ((((4 : Int32) * x2) + v2).toNatClampNeg)) + v4)).1 191 x1.toNatClampNeg) + v4)).1 188 ((((4 : Int32) * x1) + v2).toNatClampNeg)) + ((uI (uI m3 188 ((((4 : Int32) * x2) + v2).toNatClampNeg) ((m3.1 188 ((((4 : Int32) * x2) + v2).toNatClampNeg)) + v4)) 191 x1.toNatClampNeg (((uI m3 188 ((((4 : Int32) * x2) + v2).toNatClampNeg) ((m3.1 188 ((((4 : Int32) * x2) + v2).toNatClampNeg)) + v4)).1 191 x1.toNatClampNeg) + v4)).1 193 ((2 : Int32).toNatClampNeg))) - (1 : Int32)) < (7 : Int32) then ((((uI (uI m3 188 ((((4 : Int32) * x2) + v2).toNatClampNeg) ((m3.1 188 ((((4 : Int32) * x2) + v2).toNatClampNeg)) + v4)) 191 x1.toNatClampNeg (((uI m3 188 ((((4 : Int32) * x2) + v2).toNatClampNeg) ((m3.1 188 ((((4 : Int32) * x2) + v2).toNatClampNeg)) + v4)).1 191 x1.toNatClampNeg) + v4)).1 188 ((((4 : Int32) * x1) + v2).toNatClampNeg)) + ((uI (uI m3 188 ((((4 : Int32) * x2) + v2).toNatClampNeg) ((m3.1 188 ((((4 : Int32) * x2) + v2).toNatClampNeg)) + v4)) 191 x1.toNatClampNeg (((uI m3 188 ((((4 : Int32) * x2) + v2).toNatClampNeg) ((m3.1 188 ((((4 : Int32) * x2) + v2).toNatClampNeg)) + v4)).1 191 x1.toNatClampNeg) + v4)).1 193 ((2 : Int32).toNatClampNeg))) - (1 : Int32)) else (7 : Int32)) else (0 : Int32))) := f20.i rfl
                exact ⟨w21, f21, rfl⟩
  · intro c22
    have k23 := y_eqr (n := -1) rfl c22
    exact ⟨w_m1, f_m1, rfl⟩
set_option maxHeartbeats 4000000 in
theorem s_X12_isThrown {ad : Nat → Nat} {d : Nat} {m : Wm} {x0 : Int32} (w : WT m) : Ct ad μX12_isThrown (d + 1) [.int x0] m (fun r m' => WT m' ∧ Fx (RS []) m m' ∧ ∃ v : Int32, r = some (.int v) ∧ (0 : Int) ≤ v.toInt ∧ v.toInt ≤ 1) := by
  have f : Fx (RS []) m m := Fx.rf
  refine v_X12_isThrown  ?_
  refine (s_X12_in (x := x0) (lo := (0 : Int32)) (hi := (3 : Int32)) w rfl rfl).to ?_
  rintro _ m1 ⟨w_m1, g1, v2, rfl, p3, p4, p2⟩
  have f_m1 : Fx (RS []) m m1 := f.tr g1 (RS_sub rfl)
  have p5 : (v2.toInt = 0 ∧ ((x0).toInt < (0 : Int) ∨ (3 : Int) < (x0).toInt)) ∨ (v2.toInt = 1 ∧ (0 : Int) ≤ (x0).toInt ∧ (x0).toInt ≤ (3 : Int)) := p2
  clear p2
  have e6 : (m1.1 187 1).toInt = ((m.1 187 1)).toInt := congrArg _ (g1.at (a := 187) (k := 1) (by decide))
  have e7 : (m1.1 187 0).toInt = ((m.1 187 0)).toInt := congrArg _ (g1.at (a := 187) (k := 0) (by decide))
  refine ⟨v2, rfl, ?_⟩
  refine ⟨?_, ?_⟩
  · exact bz_of (by omega) (by omega)
  · exact ⟨w_m1, f_m1, _, rfl, (by show (0 : Int) ≤ (v2).toInt; omega), (by show (v2).toInt ≤ (1 : Int); omega)⟩
set_option maxHeartbeats 4000000 in
theorem l_X12_game {ad : Nat → Nat} {d : Nat} {m0 : Wm}  : ∀ n : Nat, (∀ (m : Wm) (x1 x2 x4 s0 : Int32), WT m → Fx (RS [20, 22, 26, 28]) m0 m → (0 : Int) ≤ x1.toInt → x1.toInt ≤ (7 : Int) → (0 : Int) ≤ x2.toInt → x2.toInt ≤ (7 : Int) → ((m.1 187 16).toInt = 0) → 0 * x1.toInt + 4 < (n : Int) → AW ad E0 μX12_game (d + 170) (fun r m' => WT m' ∧ Fx (RS [20, 22, 26, 28]) m0 m' ∧ ∃ v : Int32, r = some (.int v)) 69 [(0, .ref (ad 187)), (1, .int x1), (2, .int x2), (4, .int x4)] [.int s0] m) ∧ (∀ (m : Wm) (x1 x2 x4 s0 : Int32), WT m → Fx (RS [20, 22, 26, 28]) m0 m → (0 : Int) ≤ x1.toInt → x1.toInt ≤ (7 : Int) → (0 : Int) ≤ x2.toInt → x2.toInt ≤ (7 : Int) → ((m.1 187 16).toInt = 0) → 0 * x1.toInt + 3 < (n : Int) → AW ad E0 μX12_game (d + 170) (fun r m' => WT m' ∧ Fx (RS [20, 22, 26, 28]) m0 m' ∧ ∃ v : Int32, r = some (.int v)) 92 [(0, .ref (ad 187)), (1, .int x1), (2, .int x2), (4, .int x4)] [.int s0] m) ∧ (∀ (m : Wm) (x4 x8 s0 : Int32), WT m → Fx (RS [20, 22, 26, 28]) m0 m → (0 : Int) ≤ x8.toInt → x8.toInt ≤ (7 : Int) → (0 : Int) ≤ s0.toInt → s0.toInt ≤ (7 : Int) → ((m.1 187 16).toInt = 0) → 0 * x8.toInt + 2 < (n : Int) → AW ad E0 μX12_game (d + 170) (fun r m' => WT m' ∧ Fx (RS [20, 22, 26, 28]) m0 m' ∧ ∃ v : Int32, r = some (.int v)) 116 [(0, .ref (ad 187)), (4, .int x4), (8, .int x8)] [.int s0] m) ∧ (∀ (m : Wm) (x4 x5 x6 : Int32), WT m → Fx (RS [20, 22, 26, 28]) m0 m → ((m.1 187 16).toInt = 0) → 0 * x4.toInt + 1 < (n : Int) → AW ad E0 μX12_game (d + 170) (fun r m' => WT m' ∧ Fx (RS [20, 22, 26, 28]) m0 m' ∧ ∃ v : Int32, r = some (.int v)) 150 [(0, .ref (ad 187)), (4, .int x4), (5, .int x5), (6, .int x6)] [] m) := by
  intro n
  induction n with
  | zero =>
    refine ⟨?_, ?_, ?_, ?_⟩ <;> intros <;> exfalso <;> omega
  | succ n ih =>
    refine ⟨?_, ?_, ?_, ?_⟩
    · intro m x1 x2 x4 s0 w f j1 j2 j3 j4 j5 hn
      refine g_X12_game_69  ?_
      refine ⟨?_, ?_⟩
      · intro c1
        have k2 := y_eqr (n := 1) rfl c1
        refine ⟨?_, ?_⟩
        · intro c3
          have k4 := y_ner (n := 0) rfl c3
          have r5 := w.at (a := 187) (k := 16) rfl
          exact ih.2.1 _ _ _ _ _ w f (by show (0 : Int) ≤ (x1).toInt; omega) (by show (x1).toInt ≤ (7 : Int); omega) (by show (0 : Int) ≤ (x2).toInt; omega) (by show (x2).toInt ≤ (7 : Int); omega) (by show ((m.1 187 16)).toInt = 0; omega) (by show 0 * (x1).toInt + 3 < _; omega)
        · intro c6
          have k7 := y_eqr (n := 0) rfl c6
          have r8 := w.at (a := 187) (k := 16) rfl
          exact ih.2.1 _ _ _ _ _ w f (by show (0 : Int) ≤ (x1).toInt; omega) (by show (x1).toInt ≤ (7 : Int); omega) (by show (0 : Int) ≤ (x2).toInt; omega) (by show (x2).toInt ≤ (7 : Int); omega) (by show ((m.1 187 16)).toInt = 0; omega) (by show 0 * (x1).toInt + 3 < _; omega)
      · intro c9
        have k10 := y_ner (n := 1) rfl c9
        refine ⟨?_, ?_⟩
        · intro c11
          have k12 := y_ner (n := 1) rfl c11
          have r13 := w.at (a := 187) (k := 16) rfl
          exact ih.2.1 _ _ _ _ _ w f (by show (0 : Int) ≤ (x1).toInt; omega) (by show (x1).toInt ≤ (7 : Int); omega) (by show (0 : Int) ≤ (x2).toInt; omega) (by show (x2).toInt ≤ (7 : Int); omega) (by show ((m.1 187 16)).toInt = 0; omega) (by show 0 * (x1).toInt + 3 < _; omega)
        · intro c14
          have k15 := y_eqr (n := 1) rfl c14
          have r16 := w.at (a := 187) (k := 16) rfl
          exact ih.2.1 _ _ _ _ _ w f (by show (0 : Int) ≤ (x1).toInt; omega) (by show (x1).toInt ≤ (7 : Int); omega) (by show (0 : Int) ≤ (x2).toInt; omega) (by show (x2).toInt ≤ (7 : Int); omega) (by show ((m.1 187 16)).toInt = 0; omega) (by show 0 * (x1).toInt + 3 < _; omega)
    · intro m x1 x2 x4 s0 w f j1 j2 j3 j4 j5 hn
      refine g_X12_game_92  ?_
      refine ⟨?_, ?_⟩
      · intro c1
        have k2 := y_eqr (n := 0) rfl c1
        refine ⟨?_, ?_⟩
        · intro c3
          have k4 := y_eqr (n := 0) rfl c3
          have r5 := w.at (a := 187) (k := 16) rfl
          exact ih.2.2.1 _ _ _ _ w f (by show (0 : Int) ≤ (x2).toInt; omega) (by show (x2).toInt ≤ (7 : Int); omega) (by show (0 : Int) ≤ (x1).toInt; omega) (by show (x1).toInt ≤ (7 : Int); omega) (by show ((m.1 187 16)).toInt = 0; omega) (by show 0 * (x2).toInt + 2 < _; omega)
        · intro c6
          have k7 := y_ner (n := 0) rfl c6
          have r8 := w.at (a := 187) (k := 16) rfl
          exact ih.2.2.1 _ _ _ _ w f (by show (0 : Int) ≤ (x2).toInt; omega) (by show (x2).toInt ≤ (7 : Int); omega) (by show (0 : Int) ≤ (x2).toInt; omega) (by show (x2).toInt ≤ (7 : Int); omega) (by show ((m.1 187 16)).toInt = 0; omega) (by show 0 * (x2).toInt + 2 < _; omega)
      · intro c9
        have k10 := y_ner (n := 0) rfl c9
        refine ⟨?_, ?_⟩
        · intro c11
          have k12 := y_eqr (n := 0) rfl c11
          have r13 := w.at (a := 187) (k := 16) rfl
          exact ih.2.2.1 _ _ _ _ w f (by show (0 : Int) ≤ (x1).toInt; omega) (by show (x1).toInt ≤ (7 : Int); omega) (by show (0 : Int) ≤ (x1).toInt; omega) (by show (x1).toInt ≤ (7 : Int); omega) (by show ((m.1 187 16)).toInt = 0; omega) (by show 0 * (x1).toInt + 2 < _; omega)
        · intro c14
          have k15 := y_ner (n := 0) rfl c14
          have r16 := w.at (a := 187) (k := 16) rfl
          exact ih.2.2.1 _ _ _ _ w f (by show (0 : Int) ≤ (x1).toInt; omega) (by show (x1).toInt ≤ (7 : Int); omega) (by show (0 : Int) ≤ (x2).toInt; omega) (by show (x2).toInt ≤ (7 : Int); omega) (by show ((m.1 187 16)).toInt = 0; omega) (by show 0 * (x1).toInt + 2 < _; omega)
    · intro m x4 x8 s0 w f j1 j2 j3 j4 j5 hn
      refine g_X12_game_116  ?_
      refine (s_X12_artOf w (by show (0 : Int) ≤ (x8).toInt; omega) (by show (x8).toInt ≤ (7 : Int); omega) (by show (0 : Int) ≤ (s0).toInt; omega) (by show (s0).toInt ≤ (7 : Int); omega)).to ?_
      rintro _ m1 ⟨w_m1, g1, v2, rfl, p2, p3⟩
      have f_m1 : Fx (RS [20, 22, 26, 28]) m0 m1 := f.tr g1 (RS_sub rfl)
      have e4 : (m1.1 187 16).toInt = ((m.1 187 16)).toInt := congrArg _ (g1.at (a := 187) (k := 16) (by decide))
      have e5 : (m1.1 187 1).toInt = ((m.1 187 1)).toInt := congrArg _ (g1.at (a := 187) (k := 1) (by decide))
      have e6 : (m1.1 187 0).toInt = ((m.1 187 0)).toInt := congrArg _ (g1.at (a := 187) (k := 0) (by decide))
      refine ⟨v2, rfl, ?_⟩
      refine ⟨?_, ?_⟩
      · intro c7
        have k8 := y_ner (n := -1) rfl c7
        refine (s_X12_gainOf w_m1 (by show (0 : Int) ≤ (x8).toInt; omega) (by show (x8).toInt ≤ (7 : Int); omega) (by show (0 : Int) ≤ (s0).toInt; omega) (by show (s0).toInt ≤ (7 : Int); omega) (by show (0 : Int) ≤ (v2).toInt; omega) (by show (v2).toInt ≤ (3 : Int); omega)).to ?_
        rintro _ m3 ⟨w_m3, g9, v4, rfl⟩
        have f_m3 : Fx (RS [20, 22, 26, 28]) m0 m3 := f_m1.tr g9 (RS_sub rfl)
        have e10 : (m3.1 187 16).toInt = ((m1.1 187 16)).toInt := congrArg _ (g9.at (a := 187) (k := 16) (by decide))
        have e11 : (m3.1 187 1).toInt = ((m1.1 187 1)).toInt := congrArg _ (g9.at (a := 187) (k := 1) (by decide))
        have e12 : (m3.1 187 0).toInt = ((m1.1 187 0)).toInt := congrArg _ (g9.at (a := 187) (k := 0) (by decide))
        refine ⟨v4, rfl, ?_⟩
        have r13 := w_m3.at (a := 187) (k := 16) rfl
        exact ih.2.2.2 _ _ _ _ w_m3 f_m3 (by show ((m3.1 187 16)).toInt = 0; omega) (by show 0 * (x4).toInt + 1 < _; omega)
      · intro c14
        have k15 := y_eqr (n := -1) rfl c14
        have r16 := w_m1.at (a := 187) (k := 16) rfl
        exact ih.2.2.2 _ _ _ _ w_m1 f_m1 (by show ((m1.1 187 16)).toInt = 0; omega) (by show 0 * (x4).toInt + 1 < _; omega)
    · intro m x4 x5 x6 w f j1 hn
      refine g_X12_game_150  ?_
      have r1 := w.at (a := 187) (k := 16) rfl
      refine (s_X12_tell w (by show ((m.1 187 16)).toInt ≤ 15; omega)).to ?_
      rintro _ m1 ⟨w_m1, g2, rfl, p3⟩
      have f_m1 : Fx (RS [20, 22, 26, 28]) m0 m1 := f.tr g2 (RS_sub rfl)
      have p4 : (m1.1 187 16).toInt = ((m.1 187 16)).toInt + 1 := p3
      clear p3
      have e5 : (m1.1 187 1).toInt = ((m.1 187 1)).toInt := congrArg _ (g2.at (a := 187) (k := 1) (by decide))
      have e6 : (m1.1 187 0).toInt = ((m.1 187 0)).toInt := congrArg _ (g2.at (a := 187) (k := 0) (by decide))
      refine ⟨rfl, ?_⟩
      have r7 := w_m1.at (a := 187) (k := 16) rfl
      refine (s_X12_tell w_m1 (by show ((m1.1 187 16)).toInt ≤ 15; omega)).to ?_
      rintro _ m2 ⟨w_m2, g8, rfl, p9⟩
      have f_m2 : Fx (RS [20, 22, 26, 28]) m0 m2 := f_m1.tr g8 (RS_sub rfl)
      have p10 : (m2.1 187 16).toInt = ((m1.1 187 16)).toInt + 1 := p9
      clear p9
      have e11 : (m2.1 187 1).toInt = ((m1.1 187 1)).toInt := congrArg _ (g8.at (a := 187) (k := 1) (by decide))
      have e12 : (m2.1 187 0).toInt = ((m1.1 187 0)).toInt := congrArg _ (g8.at (a := 187) (k := 0) (by decide))
      refine ⟨rfl, ?_⟩
      exact ⟨w_m2, f_m2, _, rfl⟩
set_option maxHeartbeats 4000000 in
theorem s_X12_game {ad : Nat → Nat} {d : Nat} {m : Wm} {x1 x2 x3 : Int32} (w : WT m) : Ct ad μX12_game (d + 170) [.ref (ad 187), .int x1, .int x2, .int x3] m (fun r m' => WT m' ∧ Fx (RS [20, 22, 26, 28]) m m' ∧ ∃ v : Int32, r = some (.int v)) := by
  have f : Fx (RS [20, 22, 26, 28]) m m := Fx.rf
  refine v_X12_game  ?_
  have w1 : WT (uI m 187 17 (0 : Int32)) := w.n rfl
  have f1 : Fx (RS [20, 22, 26, 28]) m (uI m 187 17 (0 : Int32)) := f.i rfl
  refine (s_X12_areTwo w1).to ?_
  rintro _ m1 ⟨w_m1, g2, v2, rfl, p4, p5, p3⟩
  have f_m1 : Fx (RS [20, 22, 26, 28]) m m1 := f1.tr g2 (RS_sub rfl)
  have p6 : (v2.toInt = 0 ∧ ((x1).toInt < 0 ∨ ((m.1 187 1)).toInt ≤ (x1).toInt ∨ (x2).toInt < 0 ∨ ((m.1 187 1)).toInt ≤ (x2).toInt ∨ (x1).toInt = (x2).toInt)) ∨ (v2.toInt = 1 ∧ 0 ≤ (x1).toInt ∧ (x1).toInt < ((m.1 187 1)).toInt ∧ 0 ≤ (x2).toInt ∧ (x2).toInt < ((m.1 187 1)).toInt ∧ (x1).toInt ≠ (x2).toInt) := p3
  clear p3
  have e7 : (m1.1 187 16).toInt = ((m.1 187 16)).toInt := congrArg _ (g2.at (a := 187) (k := 16) (by decide))
  have e8 : (m1.1 187 1).toInt = ((m.1 187 1)).toInt := congrArg _ (g2.at (a := 187) (k := 1) (by decide))
  have e9 : (m1.1 187 0).toInt = ((m.1 187 0)).toInt := congrArg _ (g2.at (a := 187) (k := 0) (by decide))
  refine ⟨v2, rfl, ?_⟩
  refine ⟨?_, ?_⟩
  · intro c10
    have k11 := y_eqr (n := 0) rfl c10
    exact ⟨w_m1, f_m1, _, rfl⟩
  · intro c12
    have k13 := y_ner (n := 0) rfl c12
    have r14 := w.at (a := 187) (k := 1) rfl
    refine (s_X12_isThrown w_m1).to ?_
    rintro _ m3 ⟨w_m3, g15, v4, rfl, p16, p17⟩
    have f_m3 : Fx (RS [20, 22, 26, 28]) m m3 := f_m1.tr g15 (RS_sub rfl)
    have e18 : (m3.1 187 16).toInt = ((m1.1 187 16)).toInt := congrArg _ (g15.at (a := 187) (k := 16) (by decide))
    have e19 : (m3.1 187 1).toInt = ((m1.1 187 1)).toInt := congrArg _ (g15.at (a := 187) (k := 1) (by decide))
    have e20 : (m3.1 187 0).toInt = ((m1.1 187 0)).toInt := congrArg _ (g15.at (a := 187) (k := 0) (by decide))
    refine ⟨v4, rfl, ?_⟩
    refine ⟨?_, ?_⟩
    · intro c21
      have k22 := y_ner (n := 0) rfl c21
      refine (s_X12_winner w_m3 (by show (0 : Int) ≤ (x1).toInt; omega) (by show (x1).toInt ≤ (7 : Int); omega) (by show (0 : Int) ≤ (x2).toInt; omega) (by show (x2).toInt ≤ (7 : Int); omega)).to ?_
      rintro _ m5 ⟨w_m5, g23, v6, rfl, p24, p25⟩
      have f_m5 : Fx (RS [20, 22, 26, 28]) m m5 := f_m3.tr g23 (RS_sub rfl)
      have e26 : (m5.1 187 16).toInt = ((m3.1 187 16)).toInt := congrArg _ (g23.at (a := 187) (k := 16) (by decide))
      have e27 : (m5.1 187 1).toInt = ((m3.1 187 1)).toInt := congrArg _ (g23.at (a := 187) (k := 1) (by decide))
      have e28 : (m5.1 187 0).toInt = ((m3.1 187 0)).toInt := congrArg _ (g23.at (a := 187) (k := 0) (by decide))
      refine ⟨v6, rfl, ?_⟩
      refine ⟨?_, ?_⟩
      · intro c29
        have k30 := y_eqr (n := 2) rfl c29
        have w31 : WT (uI m5 187 16 (0 : Int32)) := w_m5.t rfl (by show (0 : Int) ≤ (0 : Int); omega) (by show (0 : Int) ≤ 16; omega)
        have f31 : Fx (RS [20, 22, 26, 28]) m (uI m5 187 16 (0 : Int32)) := f_m5.i rfl
        exact (l_X12_game (m0 := m) 1000000).2.2.2 _ _ _ _ w31 f31 (by show (0 : Int) = 0; omega) (by show 0 * (v6).toInt + 1 < _; omega)
      · intro c32
        have k33 := y_ner (n := 2) rfl c32
        refine ⟨?_, ?_⟩
        · intro c34
          have c35 : (m5.1 193 ((0 : Int32).toNatClampNeg)) = (3 : Int32) := c34
          have k36 := y_eqr (n := 3) rfl c35
          have w37 : WT (uI m5 187 16 (0 : Int32)) := w_m5.t rfl (by show (0 : Int) ≤ (0 : Int); omega) (by show (0 : Int) ≤ 16; omega)
          have f37 : Fx (RS [20, 22, 26, 28]) m (uI m5 187 16 (0 : Int32)) := f_m5.i rfl
          exact (l_X12_game (m0 := m) 1000000).2.2.2 _ _ _ _ w37 f37 (by show (0 : Int) = 0; omega) (by show 0 * (v6).toInt + 1 < _; omega)
        · intro c38
          have c39 : ¬ (m5.1 193 ((0 : Int32).toNatClampNeg)) = (3 : Int32) := c38
          have k40 := y_ner (n := 3) rfl c39
          refine ⟨?_, ?_⟩
          · intro c41
            have k42 := y_ner (n := 0) rfl c41
            have w43 : WT (uI m5 187 16 (0 : Int32)) := w_m5.t rfl (by show (0 : Int) ≤ (0 : Int); omega) (by show (0 : Int) ≤ 16; omega)
            have f43 : Fx (RS [20, 22, 26, 28]) m (uI m5 187 16 (0 : Int32)) := f_m5.i rfl
            exact (l_X12_game (m0 := m) 1000000).1 _ _ _ _ _ w43 f43 (by show (0 : Int) ≤ (x1).toInt; omega) (by show (x1).toInt ≤ (7 : Int); omega) (by show (0 : Int) ≤ (x2).toInt; omega) (by show (x2).toInt ≤ (7 : Int); omega) (by show (0 : Int) = 0; omega) (by show 0 * (x1).toInt + 4 < _; omega)
          · intro c44
            have k45 := y_eqr (n := 0) rfl c44
            have w46 : WT (uI m5 187 16 (0 : Int32)) := w_m5.t rfl (by show (0 : Int) ≤ (0 : Int); omega) (by show (0 : Int) ≤ 16; omega)
            have f46 : Fx (RS [20, 22, 26, 28]) m (uI m5 187 16 (0 : Int32)) := f_m5.i rfl
            exact (l_X12_game (m0 := m) 1000000).1 _ _ _ _ _ w46 f46 (by show (0 : Int) ≤ (x1).toInt; omega) (by show (x1).toInt ≤ (7 : Int); omega) (by show (0 : Int) ≤ (x2).toInt; omega) (by show (x2).toInt ≤ (7 : Int); omega) (by show (0 : Int) = 0; omega) (by show 0 * (x1).toInt + 4 < _; omega)
    · intro c47
      have k48 := y_eqr (n := 0) rfl c47
      exact ⟨w_m3, f_m3, _, rfl⟩
set_option maxHeartbeats 4000000 in
theorem s_X12_chanceOf {ad : Nat → Nat} {d : Nat} {m : Wm} {x1 x2 : Int32} (w : WT m) (i1 : (0 : Int) ≤ x1.toInt) (i2 : x1.toInt ≤ (7 : Int)) (i3 : (0 : Int) ≤ x2.toInt) (i4 : x2.toInt ≤ (7 : Int)) : Ct ad μX12_chanceOf (d + 169) [.ref (ad 187), .int x1, .int x2] m (fun r m' => WT m' ∧ Fx (RS [22, 28]) m m' ∧ ∃ v : Int32, r = some (.int v) ∧ (0 : Int) ≤ v.toInt ∧ v.toInt ≤ 100) := by
  have f : Fx (RS [22, 28]) m m := Fx.rf
  refine v_X12_chanceOf  ?_
  refine (s_X12_power w (by show (0 : Int) ≤ (x1).toInt; omega) (by show (x1).toInt ≤ (7 : Int); omega)).to ?_
  rintro _ m1 ⟨w_m1, g1, v2, rfl⟩
  have f_m1 : Fx (RS [22, 28]) m m1 := f.tr g1 (RS_sub rfl)
  have e2 : (m1.1 187 1).toInt = ((m.1 187 1)).toInt := congrArg _ (g1.at (a := 187) (k := 1) (by decide))
  have e3 : (m1.1 187 0).toInt = ((m.1 187 0)).toInt := congrArg _ (g1.at (a := 187) (k := 0) (by decide))
  refine ⟨v2, rfl, ?_⟩
  refine (s_X12_power w_m1 (by show (0 : Int) ≤ (x2).toInt; omega) (by show (x2).toInt ≤ (7 : Int); omega)).to ?_
  rintro _ m3 ⟨w_m3, g4, v4, rfl⟩
  have f_m3 : Fx (RS [22, 28]) m m3 := f_m1.tr g4 (RS_sub rfl)
  have e5 : (m3.1 187 1).toInt = ((m1.1 187 1)).toInt := congrArg _ (g4.at (a := 187) (k := 1) (by decide))
  have e6 : (m3.1 187 0).toInt = ((m1.1 187 0)).toInt := congrArg _ (g4.at (a := 187) (k := 0) (by decide))
  refine ⟨v4, rfl, ?_⟩
  have t7 := ti_ltv (a := ((50 : Int32) + ((m.1 193 ((4 : Int32).toNatClampNeg)) * (v2 - v4)))) (b := (100 : Int32)) (c := ((50 : Int32) + ((m.1 193 ((4 : Int32).toNatClampNeg)) * (v2 - v4)))) (d := (100 : Int32)) (A := ((50 : Int32) + ((m.1 193 ((4 : Int32).toNatClampNeg)) * (v2 - v4))).toInt) (B := (100)) (C := ((50 : Int32) + ((m.1 193 ((4 : Int32).toNatClampNeg)) * (v2 - v4))).toInt) (D := (100)) rfl rfl rfl rfl
  have t8 := ti_ltv (a := (0 : Int32)) (b := (if ((50 : Int32) + ((m.1 193 ((4 : Int32).toNatClampNeg)) * (v2 - v4))) < (100 : Int32) then ((50 : Int32) + ((m.1 193 ((4 : Int32).toNatClampNeg)) * (v2 - v4))) else (100 : Int32))) (c := (if ((50 : Int32) + ((m.1 193 ((4 : Int32).toNatClampNeg)) * (v2 - v4))) < (100 : Int32) then ((50 : Int32) + ((m.1 193 ((4 : Int32).toNatClampNeg)) * (v2 - v4))) else (100 : Int32))) (d := (0 : Int32)) (A := (0)) (B := (if ((50 : Int32) + ((m.1 193 ((4 : Int32).toNatClampNeg)) * (v2 - v4))) < (100 : Int32) then ((50 : Int32) + ((m.1 193 ((4 : Int32).toNatClampNeg)) * (v2 - v4))) else (100 : Int32)).toInt) (C := (if ((50 : Int32) + ((m.1 193 ((4 : Int32).toNatClampNeg)) * (v2 - v4))) < (100 : Int32) then ((50 : Int32) + ((m.1 193 ((4 : Int32).toNatClampNeg)) * (v2 - v4))) else (100 : Int32)).toInt) (D := (0)) rfl rfl rfl rfl
  exact ⟨w_m3, f_m3, _, rfl, (by show (0 : Int) ≤ ((if (0 : Int32) < (if ((50 : Int32) + ((m.1 193 ((4 : Int32).toNatClampNeg)) * (v2 - v4))) < (100 : Int32) then ((50 : Int32) + ((m.1 193 ((4 : Int32).toNatClampNeg)) * (v2 - v4))) else (100 : Int32)) then (if ((50 : Int32) + ((m.1 193 ((4 : Int32).toNatClampNeg)) * (v2 - v4))) < (100 : Int32) then ((50 : Int32) + ((m.1 193 ((4 : Int32).toNatClampNeg)) * (v2 - v4))) else (100 : Int32)) else (0 : Int32))).toInt; omega), (by show ((if (0 : Int32) < (if ((50 : Int32) + ((m.1 193 ((4 : Int32).toNatClampNeg)) * (v2 - v4))) < (100 : Int32) then ((50 : Int32) + ((m.1 193 ((4 : Int32).toNatClampNeg)) * (v2 - v4))) else (100 : Int32)) then (if ((50 : Int32) + ((m.1 193 ((4 : Int32).toNatClampNeg)) * (v2 - v4))) < (100 : Int32) then ((50 : Int32) + ((m.1 193 ((4 : Int32).toNatClampNeg)) * (v2 - v4))) else (100 : Int32)) else (0 : Int32))).toInt ≤ (100 : Int); omega)⟩
set_option maxHeartbeats 4000000 in
theorem s_X12_odds {ad : Nat → Nat} {d : Nat} {m : Wm} {x1 x2 : Int32} (w : WT m) : Ct ad μX12_odds (d + 170) [.ref (ad 187), .int x1, .int x2] m (fun r m' => WT m' ∧ Fx (RS [20, 22, 28]) m m' ∧ ∃ v : Int32, r = some (.int v)) := by
  have f : Fx (RS [20, 22, 28]) m m := Fx.rf
  refine v_X12_odds  ?_
  have w1 : WT (uI m 187 17 (0 : Int32)) := w.n rfl
  have f1 : Fx (RS [20, 22, 28]) m (uI m 187 17 (0 : Int32)) := f.i rfl
  refine (s_X12_areTwo w1).to ?_
  rintro _ m1 ⟨w_m1, g2, v2, rfl, p4, p5, p3⟩
  have f_m1 : Fx (RS [20, 22, 28]) m m1 := f1.tr g2 (RS_sub rfl)
  have p6 : (v2.toInt = 0 ∧ ((x1).toInt < 0 ∨ ((m.1 187 1)).toInt ≤ (x1).toInt ∨ (x2).toInt < 0 ∨ ((m.1 187 1)).toInt ≤ (x2).toInt ∨ (x1).toInt = (x2).toInt)) ∨ (v2.toInt = 1 ∧ 0 ≤ (x1).toInt ∧ (x1).toInt < ((m.1 187 1)).toInt ∧ 0 ≤ (x2).toInt ∧ (x2).toInt < ((m.1 187 1)).toInt ∧ (x1).toInt ≠ (x2).toInt) := p3
  clear p3
  have e7 : (m1.1 187 1).toInt = ((m.1 187 1)).toInt := congrArg _ (g2.at (a := 187) (k := 1) (by decide))
  have e8 : (m1.1 187 0).toInt = ((m.1 187 0)).toInt := congrArg _ (g2.at (a := 187) (k := 0) (by decide))
  refine ⟨v2, rfl, ?_⟩
  refine ⟨?_, ?_⟩
  · intro c9
    have k10 := y_eqr (n := 0) rfl c9
    exact ⟨w_m1, f_m1, _, rfl⟩
  · intro c11
    have k12 := y_ner (n := 0) rfl c11
    have r13 := w.at (a := 187) (k := 1) rfl
    refine (s_X12_chanceOf w_m1 (by show (0 : Int) ≤ (x1).toInt; omega) (by show (x1).toInt ≤ (7 : Int); omega) (by show (0 : Int) ≤ (x2).toInt; omega) (by show (x2).toInt ≤ (7 : Int); omega)).to ?_
    rintro _ m3 ⟨w_m3, g14, v4, rfl, p15, p16⟩
    have f_m3 : Fx (RS [20, 22, 28]) m m3 := f_m1.tr g14 (RS_sub rfl)
    have e17 : (m3.1 187 1).toInt = ((m1.1 187 1)).toInt := congrArg _ (g14.at (a := 187) (k := 1) (by decide))
    have e18 : (m3.1 187 0).toInt = ((m1.1 187 0)).toInt := congrArg _ (g14.at (a := 187) (k := 0) (by decide))
    refine ⟨v4, rfl, ?_⟩
    exact ⟨w_m3, f_m3, _, rfl⟩
set_option maxHeartbeats 4000000 in
theorem l_X12_settle {ad : Nat → Nat} {d : Nat} {m0 : Wm}  : ∀ n : Nat, (∀ (m : Wm) (x1 x2 x3 x4 : Int32), WT m → Fx (RS [24]) m0 m → (0 : Int) ≤ x1.toInt → x1.toInt ≤ (7 : Int) → (0 : Int) ≤ x2.toInt → x2.toInt ≤ (7 : Int) → 0 * x1.toInt + 4 < (n : Int) → AW ad E0 μX12_settle (d + 3) (fun r m' => WT m' ∧ Fx (RS [24]) m0 m' ∧ r = none) 18 [(0, .ref (ad 187)), (1, .int x1), (2, .int x2), (3, .int x3), (4, .int x4)] [] m) ∧ (∀ (m : Wm) (x1 x2 x4 : Int32), WT m → Fx (RS [24]) m0 m → (0 : Int) ≤ x1.toInt → x1.toInt ≤ (7 : Int) → (0 : Int) ≤ x2.toInt → x2.toInt ≤ (7 : Int) → 0 * x1.toInt + 3 < (n : Int) → AW ad E0 μX12_settle (d + 3) (fun r m' => WT m' ∧ Fx (RS [24]) m0 m' ∧ r = none) 36 [(0, .ref (ad 187)), (1, .int x1), (2, .int x2), (4, .int x4)] [] m) ∧ (∀ (m : Wm) (x5 s0 : Int32), WT m → Fx (RS [24]) m0 m → (0 : Int) ≤ x5.toInt → x5.toInt ≤ (7 : Int) → (0 : Int) ≤ s0.toInt → s0.toInt ≤ (7 : Int) → 0 * x5.toInt + 2 < (n : Int) → AW ad E0 μX12_settle (d + 3) (fun r m' => WT m' ∧ Fx (RS [24]) m0 m' ∧ r = none) 85 [(0, .ref (ad 187)), (5, .int x5)] [.int s0] m) ∧ (∀ (m : Wm) (x5 x6 : Int32), WT m → Fx (RS [24]) m0 m → (0 : Int) ≤ x5.toInt → x5.toInt ≤ (7 : Int) → (0 : Int) ≤ x6.toInt → x6.toInt ≤ (7 : Int) → 0 * x5.toInt + 1 < (n : Int) → AW ad E0 μX12_settle (d + 3) (fun r m' => WT m' ∧ Fx (RS [24]) m0 m' ∧ r = none) 125 [(0, .ref (ad 187)), (5, .int x5), (6, .int x6)] [] m) := by
  intro n
  induction n with
  | zero =>
    refine ⟨?_, ?_, ?_, ?_⟩ <;> intros <;> exfalso <;> omega
  | succ n ih =>
    refine ⟨?_, ?_, ?_, ?_⟩
    · intro m x1 x2 x3 x4 w f j1 j2 j3 j4 hn
      refine g_X12_settle_18  ?_
      refine (s_X12_has w).to ?_
      rintro _ m1 ⟨w_m1, g1, v2, rfl, p2, p3⟩
      have f_m1 : Fx (RS [24]) m0 m1 := f.tr g1 (RS_sub rfl)
      have e4 : (m1.1 187 1).toInt = ((m.1 187 1)).toInt := congrArg _ (g1.at (a := 187) (k := 1) (by decide))
      have e5 : (m1.1 187 0).toInt = ((m.1 187 0)).toInt := congrArg _ (g1.at (a := 187) (k := 0) (by decide))
      refine ⟨v2, rfl, ?_⟩
      refine ⟨?_, ?_⟩
      · intro c6
        have k7 := y_eqr (n := 0) rfl c6
        exact ih.2.1 _ _ _ _ w_m1 f_m1 (by show (0 : Int) ≤ (x1).toInt; omega) (by show (x1).toInt ≤ (7 : Int); omega) (by show (0 : Int) ≤ (x2).toInt; omega) (by show (x2).toInt ≤ (7 : Int); omega) (by show 0 * (x1).toInt + 3 < _; omega)
      · intro c8
        have k9 := y_ner (n := 0) rfl c8
        refine ⟨?_, ?_⟩
        · exact vpi (by omega) (by omega)
        · refine ⟨?_, ?_⟩
          · exact vpi (by omega) (by omega)
          · have w10 : WT (uI m1 192 x2.toNatClampNeg ((m1.1 192 x2.toNatClampNeg) + (1 : Int32))) := w_m1.n rfl
            have f10 : Fx (RS [24]) m0 (uI m1 192 x2.toNatClampNeg ((m1.1 192 x2.toNatClampNeg) + (1 : Int32))) := f_m1.i rfl
            exact ih.2.1 _ _ _ _ w10 f10 (by show (0 : Int) ≤ (x1).toInt; omega) (by show (x1).toInt ≤ (7 : Int); omega) (by show (0 : Int) ≤ (x2).toInt; omega) (by show (x2).toInt ≤ (7 : Int); omega) (by show 0 * (x1).toInt + 3 < _; omega)
    · intro m x1 x2 x4 w f j1 j2 j3 j4 hn
      refine g_X12_settle_36  ?_
      refine ⟨?_, ?_⟩
      · intro c1
        have k2 := y_ner (n := 2) rfl c1
        refine ⟨?_, ?_⟩
        · intro c3
          have k4 := y_ner (n := 0) rfl c3
          refine ⟨?_, ?_⟩
          · intro c5
            have k6 := y_ner (n := 0) rfl c5
            exact ih.2.2.1 _ _ _ w f (by show (0 : Int) ≤ (x2).toInt; omega) (by show (x2).toInt ≤ (7 : Int); omega) (by show (0 : Int) ≤ (x1).toInt; omega) (by show (x1).toInt ≤ (7 : Int); omega) (by show 0 * (x2).toInt + 2 < _; omega)
          · intro c7
            have k8 := y_eqr (n := 0) rfl c7
            exact ih.2.2.1 _ _ _ w f (by show (0 : Int) ≤ (x2).toInt; omega) (by show (x2).toInt ≤ (7 : Int); omega) (by show (0 : Int) ≤ (x2).toInt; omega) (by show (x2).toInt ≤ (7 : Int); omega) (by show 0 * (x2).toInt + 2 < _; omega)
        · intro c9
          have k10 := y_eqr (n := 0) rfl c9
          refine ⟨?_, ?_⟩
          · intro c11
            have k12 := y_ner (n := 0) rfl c11
            exact ih.2.2.1 _ _ _ w f (by show (0 : Int) ≤ (x1).toInt; omega) (by show (x1).toInt ≤ (7 : Int); omega) (by show (0 : Int) ≤ (x1).toInt; omega) (by show (x1).toInt ≤ (7 : Int); omega) (by show 0 * (x1).toInt + 2 < _; omega)
          · intro c13
            have k14 := y_eqr (n := 0) rfl c13
            exact ih.2.2.1 _ _ _ w f (by show (0 : Int) ≤ (x1).toInt; omega) (by show (x1).toInt ≤ (7 : Int); omega) (by show (0 : Int) ≤ (x2).toInt; omega) (by show (x2).toInt ≤ (7 : Int); omega) (by show 0 * (x1).toInt + 2 < _; omega)
      · intro c15
        have k16 := y_eqr (n := 2) rfl c15
        refine ⟨?_, ?_⟩
        · exact vpi (by omega) (by omega)
        · refine ⟨?_, ?_⟩
          · exact vpi (by omega) (by omega)
          · refine ⟨?_, ?_⟩
            · exact vpi (by omega) (by omega)
            · refine ⟨?_, ?_⟩
              · exact vpi (by omega) (by omega)
              · have w17 : WT (uI m 190 x1.toNatClampNeg ((m.1 190 x1.toNatClampNeg) + (1 : Int32))) := w.n rfl
                have f17 : Fx (RS [24]) m0 (uI m 190 x1.toNatClampNeg ((m.1 190 x1.toNatClampNeg) + (1 : Int32))) := f.i rfl
                have w18 : WT (uI (uI m 190 x1.toNatClampNeg ((m.1 190 x1.toNatClampNeg) + (1 : Int32))) 190 x2.toNatClampNeg (((uI m 190 x1.toNatClampNeg ((m.1 190 x1.toNatClampNeg) + (1 : Int32))).1 190 x2.toNatClampNeg) + (1 : Int32))) := w17.n rfl
                have f18 : Fx (RS [24]) m0 (uI (uI m 190 x1.toNatClampNeg ((m.1 190 x1.toNatClampNeg) + (1 : Int32))) 190 x2.toNatClampNeg (((uI m 190 x1.toNatClampNeg ((m.1 190 x1.toNatClampNeg) + (1 : Int32))).1 190 x2.toNatClampNeg) + (1 : Int32))) := f17.i rfl
                exact ⟨w18, f18, rfl⟩
    · intro m x5 s0 w f j1 j2 j3 j4 hn
      refine g_X12_settle_85  ?_
      refine ⟨?_, ?_⟩
      · exact vpi (by omega) (by omega)
      · refine ⟨?_, ?_⟩
        · exact vpi (by omega) (by omega)
        · refine ⟨?_, ?_⟩
          · intro c1
            have c2 : (m.1 193 ((0 : Int32).toNatClampNeg)) = (0 : Int32) := c1
            have k3 := y_eqr (n := 0) rfl c2
            have w4 : WT (uI m 190 x5.toNatClampNeg ((m.1 190 x5.toNatClampNeg) + (3 : Int32))) := w.n rfl
            have f4 : Fx (RS [24]) m0 (uI m 190 x5.toNatClampNeg ((m.1 190 x5.toNatClampNeg) + (3 : Int32))) := f.i rfl
            refine (s_X12_teach w4 (by show (0 : Int) ≤ (x5).toInt; omega) (by show (x5).toInt ≤ (7 : Int); omega) (by show (0 : Int) ≤ (s0).toInt; omega) (by show (s0).toInt ≤ (7 : Int); omega)).to ?_
            rintro _ m1 ⟨w_m1, g5, rfl⟩
            have f_m1 : Fx (RS [24]) m0 m1 := f4.tr g5 (RS_sub rfl)
            have e6 : (m1.1 187 1).toInt = ((m.1 187 1)).toInt := congrArg _ (g5.at (a := 187) (k := 1) (by decide))
            have e7 : (m1.1 187 0).toInt = ((m.1 187 0)).toInt := congrArg _ (g5.at (a := 187) (k := 0) (by decide))
            refine ⟨rfl, ?_⟩
            exact ih.2.2.2 _ _ _ w_m1 f_m1 (by show (0 : Int) ≤ (x5).toInt; omega) (by show (x5).toInt ≤ (7 : Int); omega) (by show (0 : Int) ≤ (s0).toInt; omega) (by show (s0).toInt ≤ (7 : Int); omega) (by show 0 * (x5).toInt + 1 < _; omega)
          · intro c8
            have c9 : ¬ (m.1 193 ((0 : Int32).toNatClampNeg)) = (0 : Int32) := c8
            have k10 := y_ner (n := 0) rfl c9
            refine ⟨?_, ?_⟩
            · intro c11
              have c12 : ¬ (m.1 193 ((0 : Int32).toNatClampNeg)) = (2 : Int32) := c11
              have k13 := y_ner (n := 2) rfl c12
              have w14 : WT (uI m 190 x5.toNatClampNeg ((m.1 190 x5.toNatClampNeg) + (3 : Int32))) := w.n rfl
              have f14 : Fx (RS [24]) m0 (uI m 190 x5.toNatClampNeg ((m.1 190 x5.toNatClampNeg) + (3 : Int32))) := f.i rfl
              exact ih.2.2.2 _ _ _ w14 f14 (by show (0 : Int) ≤ (x5).toInt; omega) (by show (x5).toInt ≤ (7 : Int); omega) (by show (0 : Int) ≤ (s0).toInt; omega) (by show (s0).toInt ≤ (7 : Int); omega) (by show 0 * (x5).toInt + 1 < _; omega)
            · intro c15
              have c16 : (m.1 193 ((0 : Int32).toNatClampNeg)) = (2 : Int32) := c15
              have k17 := y_eqr (n := 2) rfl c16
              have w18 : WT (uI m 190 x5.toNatClampNeg ((m.1 190 x5.toNatClampNeg) + (3 : Int32))) := w.n rfl
              have f18 : Fx (RS [24]) m0 (uI m 190 x5.toNatClampNeg ((m.1 190 x5.toNatClampNeg) + (3 : Int32))) := f.i rfl
              refine (s_X12_teach w18 (by show (0 : Int) ≤ (x5).toInt; omega) (by show (x5).toInt ≤ (7 : Int); omega) (by show (0 : Int) ≤ (s0).toInt; omega) (by show (s0).toInt ≤ (7 : Int); omega)).to ?_
              rintro _ m2 ⟨w_m2, g19, rfl⟩
              have f_m2 : Fx (RS [24]) m0 m2 := f18.tr g19 (RS_sub rfl)
              have e20 : (m2.1 187 1).toInt = ((m.1 187 1)).toInt := congrArg _ (g19.at (a := 187) (k := 1) (by decide))
              have e21 : (m2.1 187 0).toInt = ((m.1 187 0)).toInt := congrArg _ (g19.at (a := 187) (k := 0) (by decide))
              refine ⟨rfl, ?_⟩
              exact ih.2.2.2 _ _ _ w_m2 f_m2 (by show (0 : Int) ≤ (x5).toInt; omega) (by show (x5).toInt ≤ (7 : Int); omega) (by show (0 : Int) ≤ (s0).toInt; omega) (by show (s0).toInt ≤ (7 : Int); omega) (by show 0 * (x5).toInt + 1 < _; omega)
    · intro m x5 x6 w f j1 j2 j3 j4 hn
      refine g_X12_settle_125  ?_
      refine ⟨?_, ?_⟩
      · intro c1
        have k2 := y_eqr (n := 1) rfl c1
        refine (s_X12_teach w (by show (0 : Int) ≤ (x6).toInt; omega) (by show (x6).toInt ≤ (7 : Int); omega) (by show (0 : Int) ≤ (x5).toInt; omega) (by show (x5).toInt ≤ (7 : Int); omega)).to ?_
        rintro _ m1 ⟨w_m1, g3, rfl⟩
        have f_m1 : Fx (RS [24]) m0 m1 := f.tr g3 (RS_sub rfl)
        have e4 : (m1.1 187 1).toInt = ((m.1 187 1)).toInt := congrArg _ (g3.at (a := 187) (k := 1) (by decide))
        have e5 : (m1.1 187 0).toInt = ((m.1 187 0)).toInt := congrArg _ (g3.at (a := 187) (k := 0) (by decide))
        refine ⟨rfl, ?_⟩
        exact ⟨w_m1, f_m1, rfl⟩
      · intro c6
        have k7 := y_ner (n := 1) rfl c6
        refine ⟨?_, ?_⟩
        · intro c8
          have k9 := y_ner (n := 2) rfl c8
          exact ⟨w, f, rfl⟩
        · intro c10
          have k11 := y_eqr (n := 2) rfl c10
          refine (s_X12_teach w (by show (0 : Int) ≤ (x6).toInt; omega) (by show (x6).toInt ≤ (7 : Int); omega) (by show (0 : Int) ≤ (x5).toInt; omega) (by show (x5).toInt ≤ (7 : Int); omega)).to ?_
          rintro _ m2 ⟨w_m2, g12, rfl⟩
          have f_m2 : Fx (RS [24]) m0 m2 := f.tr g12 (RS_sub rfl)
          have e13 : (m2.1 187 1).toInt = ((m.1 187 1)).toInt := congrArg _ (g12.at (a := 187) (k := 1) (by decide))
          have e14 : (m2.1 187 0).toInt = ((m.1 187 0)).toInt := congrArg _ (g12.at (a := 187) (k := 0) (by decide))
          refine ⟨rfl, ?_⟩
          exact ⟨w_m2, f_m2, rfl⟩
set_option maxHeartbeats 4000000 in
theorem s_X12_settle {ad : Nat → Nat} {d : Nat} {m : Wm} {x1 x2 x3 x4 : Int32} (w : WT m) (i1 : (0 : Int) ≤ x1.toInt) (i2 : x1.toInt ≤ (7 : Int)) (i3 : (0 : Int) ≤ x2.toInt) (i4 : x2.toInt ≤ (7 : Int)) : Ct ad μX12_settle (d + 3) [.ref (ad 187), .int x1, .int x2, .int x3, .int x4] m (fun r m' => WT m' ∧ Fx (RS [24]) m m' ∧ r = none) := by
  have f : Fx (RS [24]) m m := Fx.rf
  refine v_X12_settle  ?_
  refine (s_X12_has w).to ?_
  rintro _ m1 ⟨w_m1, g1, v2, rfl, p2, p3⟩
  have f_m1 : Fx (RS [24]) m m1 := f.tr g1 (RS_sub rfl)
  have e4 : (m1.1 187 1).toInt = ((m.1 187 1)).toInt := congrArg _ (g1.at (a := 187) (k := 1) (by decide))
  have e5 : (m1.1 187 0).toInt = ((m.1 187 0)).toInt := congrArg _ (g1.at (a := 187) (k := 0) (by decide))
  refine ⟨v2, rfl, ?_⟩
  refine ⟨?_, ?_⟩
  · intro c6
    have k7 := y_eqr (n := 0) rfl c6
    exact (l_X12_settle (m0 := m) 1000000).1 _ _ _ _ _ w_m1 f_m1 (by show (0 : Int) ≤ (x1).toInt; omega) (by show (x1).toInt ≤ (7 : Int); omega) (by show (0 : Int) ≤ (x2).toInt; omega) (by show (x2).toInt ≤ (7 : Int); omega) (by show 0 * (x1).toInt + 4 < _; omega)
  · intro c8
    have k9 := y_ner (n := 0) rfl c8
    refine ⟨?_, ?_⟩
    · exact vpi (by omega) (by omega)
    · refine ⟨?_, ?_⟩
      · exact vpi (by omega) (by omega)
      · have w10 : WT (uI m1 192 x1.toNatClampNeg ((m1.1 192 x1.toNatClampNeg) + (1 : Int32))) := w_m1.n rfl
        have f10 : Fx (RS [24]) m (uI m1 192 x1.toNatClampNeg ((m1.1 192 x1.toNatClampNeg) + (1 : Int32))) := f_m1.i rfl
        exact (l_X12_settle (m0 := m) 1000000).1 _ _ _ _ _ w10 f10 (by show (0 : Int) ≤ (x1).toInt; omega) (by show (x1).toInt ≤ (7 : Int); omega) (by show (0 : Int) ≤ (x2).toInt; omega) (by show (x2).toInt ≤ (7 : Int); omega) (by show 0 * (x1).toInt + 4 < _; omega)
set_option maxHeartbeats 4000000 in
theorem s_X12_drawHundred {ad : Nat → Nat} {d : Nat} {m : Wm} (w : WT m) : Ct ad μX12_drawHundred d [.ref (ad 187)] m (fun r m' => WT m' ∧ Fx (RS [49]) m m' ∧ ∃ v : Int32, r = some (.int v)) := by
  have f : Fx (RS [49]) m m := Fx.rf
  refine v_X12_drawHundred  ?_
  have w1 : WT (uI m 187 8 (((m.1 187 8) * (1103515245 : Int32)) + (12345 : Int32))) := w.n rfl
  have f1 : Fx (RS [49]) m (uI m 187 8 (((m.1 187 8) * (1103515245 : Int32)) + (12345 : Int32))) := f.i rfl
  exact ⟨w1, f1, _, rfl⟩
set_option maxHeartbeats 4000000 in
theorem l_X12_goGame {ad : Nat → Nat} {d : Nat} {m0 : Wm}  : ∀ n : Nat, (∀ (m : Wm) (x1 x2 x3 s0 : Int32), WT m → Fx (RS [22, 24, 28, 49]) m0 m → (0 : Int) ≤ x1.toInt → x1.toInt ≤ (7 : Int) → (0 : Int) ≤ x2.toInt → x2.toInt ≤ (7 : Int) → (0 : Int) ≤ s0.toInt → s0.toInt ≤ (2 : Int) → 0 * x1.toInt < (n : Int) → AW ad E0 μX12_goGame (d + 170) (fun r m' => WT m' ∧ Fx (RS [22, 24, 28, 49]) m0 m' ∧ ∃ v : Int32, r = some (.int v) ∧ (0 : Int) ≤ v.toInt ∧ v.toInt ≤ 2) 46 [(0, .ref (ad 187)), (1, .int x1), (2, .int x2), (3, .int x3)] [.int s0] m) := by
  intro n
  induction n with
  | zero =>
    intros
    exfalso
    omega
  | succ n ih =>
    intro m x1 x2 x3 s0 w f j1 j2 j3 j4 j5 j6 hn
    refine g_X12_goGame_46  ?_
    refine (s_X12_settle w (by show (0 : Int) ≤ (x1).toInt; omega) (by show (x1).toInt ≤ (7 : Int); omega) (by show (0 : Int) ≤ (x2).toInt; omega) (by show (x2).toInt ≤ (7 : Int); omega)).to ?_
    rintro _ m1 ⟨w_m1, g1, rfl⟩
    have f_m1 : Fx (RS [22, 24, 28, 49]) m0 m1 := f.tr g1 (RS_sub rfl)
    have e2 : (m1.1 187 1).toInt = ((m.1 187 1)).toInt := congrArg _ (g1.at (a := 187) (k := 1) (by decide))
    have e3 : (m1.1 187 0).toInt = ((m.1 187 0)).toInt := congrArg _ (g1.at (a := 187) (k := 0) (by decide))
    refine ⟨rfl, ?_⟩
    exact ⟨w_m1, f_m1, _, rfl, (by show (0 : Int) ≤ (s0).toInt; omega), (by show (s0).toInt ≤ (2 : Int); omega)⟩
set_option maxHeartbeats 4000000 in
theorem s_X12_goGame {ad : Nat → Nat} {d : Nat} {m : Wm} {x1 x2 x3 x4 : Int32} (w : WT m) (i1 : (0 : Int) ≤ x1.toInt) (i2 : x1.toInt ≤ (7 : Int)) (i3 : (0 : Int) ≤ x2.toInt) (i4 : x2.toInt ≤ (7 : Int)) : Ct ad μX12_goGame (d + 170) [.ref (ad 187), .int x1, .int x2, .int x3, .int x4] m (fun r m' => WT m' ∧ Fx (RS [22, 24, 28, 49]) m m' ∧ ∃ v : Int32, r = some (.int v) ∧ (0 : Int) ≤ v.toInt ∧ v.toInt ≤ 2) := by
  have f : Fx (RS [22, 24, 28, 49]) m m := Fx.rf
  refine v_X12_goGame  ?_
  refine ⟨?_, ?_⟩
  · intro c1
    have k2 := y_eqr (n := 0) rfl c1
    refine (s_X12_winner w (by show (0 : Int) ≤ (x1).toInt; omega) (by show (x1).toInt ≤ (7 : Int); omega) (by show (0 : Int) ≤ (x2).toInt; omega) (by show (x2).toInt ≤ (7 : Int); omega)).to ?_
    rintro _ m1 ⟨w_m1, g3, v2, rfl, p4, p5⟩
    have f_m1 : Fx (RS [22, 24, 28, 49]) m m1 := f.tr g3 (RS_sub rfl)
    have e6 : (m1.1 187 1).toInt = ((m.1 187 1)).toInt := congrArg _ (g3.at (a := 187) (k := 1) (by decide))
    have e7 : (m1.1 187 0).toInt = ((m.1 187 0)).toInt := congrArg _ (g3.at (a := 187) (k := 0) (by decide))
    refine ⟨v2, rfl, ?_⟩
    exact (l_X12_goGame (m0 := m) 1000000) _ _ _ _ _ w_m1 f_m1 (by show (0 : Int) ≤ (x1).toInt; omega) (by show (x1).toInt ≤ (7 : Int); omega) (by show (0 : Int) ≤ (x2).toInt; omega) (by show (x2).toInt ≤ (7 : Int); omega) (by show (0 : Int) ≤ (v2).toInt; omega) (by show (v2).toInt ≤ (2 : Int); omega) (by show 0 * (x1).toInt < _; omega)
  · intro c8
    have k9 := y_ner (n := 0) rfl c8
    refine ⟨?_, ?_⟩
    · intro c10
      have k11 := y_ler (n := 0) rfl c10
      refine (s_X12_winner w (by show (0 : Int) ≤ (x1).toInt; omega) (by show (x1).toInt ≤ (7 : Int); omega) (by show (0 : Int) ≤ (x2).toInt; omega) (by show (x2).toInt ≤ (7 : Int); omega)).to ?_
      rintro _ m3 ⟨w_m3, g12, v4, rfl, p13, p14⟩
      have f_m3 : Fx (RS [22, 24, 28, 49]) m m3 := f.tr g12 (RS_sub rfl)
      have e15 : (m3.1 187 1).toInt = ((m.1 187 1)).toInt := congrArg _ (g12.at (a := 187) (k := 1) (by decide))
      have e16 : (m3.1 187 0).toInt = ((m.1 187 0)).toInt := congrArg _ (g12.at (a := 187) (k := 0) (by decide))
      refine ⟨v4, rfl, ?_⟩
      exact (l_X12_goGame (m0 := m) 1000000) _ _ _ _ _ w_m3 f_m3 (by show (0 : Int) ≤ (x1).toInt; omega) (by show (x1).toInt ≤ (7 : Int); omega) (by show (0 : Int) ≤ (x2).toInt; omega) (by show (x2).toInt ≤ (7 : Int); omega) (by show (0 : Int) ≤ (v4).toInt; omega) (by show (v4).toInt ≤ (2 : Int); omega) (by show 0 * (x1).toInt < _; omega)
    · intro c17
      have k18 := y_nler (n := 0) rfl c17
      refine ⟨?_, ?_⟩
      · intro c19
        have k20 := y_ner (n := 0) rfl c19
        refine (s_X12_winner w (by show (0 : Int) ≤ (x1).toInt; omega) (by show (x1).toInt ≤ (7 : Int); omega) (by show (0 : Int) ≤ (x2).toInt; omega) (by show (x2).toInt ≤ (7 : Int); omega)).to ?_
        rintro _ m5 ⟨w_m5, g21, v6, rfl, p22, p23⟩
        have f_m5 : Fx (RS [22, 24, 28, 49]) m m5 := f.tr g21 (RS_sub rfl)
        have e24 : (m5.1 187 1).toInt = ((m.1 187 1)).toInt := congrArg _ (g21.at (a := 187) (k := 1) (by decide))
        have e25 : (m5.1 187 0).toInt = ((m.1 187 0)).toInt := congrArg _ (g21.at (a := 187) (k := 0) (by decide))
        refine ⟨v6, rfl, ?_⟩
        exact (l_X12_goGame (m0 := m) 1000000) _ _ _ _ _ w_m5 f_m5 (by show (0 : Int) ≤ (x1).toInt; omega) (by show (x1).toInt ≤ (7 : Int); omega) (by show (0 : Int) ≤ (x2).toInt; omega) (by show (x2).toInt ≤ (7 : Int); omega) (by show (0 : Int) ≤ (v6).toInt; omega) (by show (v6).toInt ≤ (2 : Int); omega) (by show 0 * (x1).toInt < _; omega)
      · intro c26
        have k27 := y_eqr (n := 0) rfl c26
        refine (s_X12_drawHundred w).to ?_
        rintro _ m7 ⟨w_m7, g28, v8, rfl⟩
        have f_m7 : Fx (RS [22, 24, 28, 49]) m m7 := f.tr g28 (RS_sub rfl)
        have e29 : (m7.1 187 1).toInt = ((m.1 187 1)).toInt := congrArg _ (g28.at (a := 187) (k := 1) (by decide))
        have e30 : (m7.1 187 0).toInt = ((m.1 187 0)).toInt := congrArg _ (g28.at (a := 187) (k := 0) (by decide))
        refine ⟨v8, rfl, ?_⟩
        refine (s_X12_chanceOf w_m7 (by show (0 : Int) ≤ (x1).toInt; omega) (by show (x1).toInt ≤ (7 : Int); omega) (by show (0 : Int) ≤ (x2).toInt; omega) (by show (x2).toInt ≤ (7 : Int); omega)).to ?_
        rintro _ m9 ⟨w_m9, g31, v10, rfl, p32, p33⟩
        have f_m9 : Fx (RS [22, 24, 28, 49]) m m9 := f_m7.tr g31 (RS_sub rfl)
        have e34 : (m9.1 187 1).toInt = ((m7.1 187 1)).toInt := congrArg _ (g31.at (a := 187) (k := 1) (by decide))
        have e35 : (m9.1 187 0).toInt = ((m7.1 187 0)).toInt := congrArg _ (g31.at (a := 187) (k := 0) (by decide))
        refine ⟨v10, rfl, ?_⟩
        refine ⟨?_, ?_⟩
        · intro c36
          have k37 := z_le c36
          exact (l_X12_goGame (m0 := m) 1000000) _ _ _ _ _ w_m9 f_m9 (by show (0 : Int) ≤ (x1).toInt; omega) (by show (x1).toInt ≤ (7 : Int); omega) (by show (0 : Int) ≤ (x2).toInt; omega) (by show (x2).toInt ≤ (7 : Int); omega) (by show (0 : Int) ≤ (1 : Int); omega) (by show (1 : Int) ≤ (2 : Int); omega) (by show 0 * (x1).toInt < _; omega)
        · intro c38
          have k39 := z_nle c38
          exact (l_X12_goGame (m0 := m) 1000000) _ _ _ _ _ w_m9 f_m9 (by show (0 : Int) ≤ (x1).toInt; omega) (by show (x1).toInt ≤ (7 : Int); omega) (by show (0 : Int) ≤ (x2).toInt; omega) (by show (x2).toInt ≤ (7 : Int); omega) (by show (0 : Int) ≤ (0 : Int); omega) (by show (0 : Int) ≤ (2 : Int); omega) (by show 0 * (x1).toInt < _; omega)
end
