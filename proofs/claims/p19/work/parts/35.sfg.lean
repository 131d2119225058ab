/-! SAFETY OF THE CLASS, BY PROGRAM (X11_sidesWithResult .. X11_count) -/
set_option maxHeartbeats 4000000 in
theorem l_X11_sidesWithResult {ad : Nat → Nat} {d : Nat} {m0 : Wm}  : ∀ n : Nat, (∀ (m : Wm) (x1 x2 x3 x4 : Int32), WT m → Fx (RS [14]) m0 m → (0 : Int) ≤ x1.toInt → x1.toInt ≤ (7 : Int) → (0 : Int) ≤ x4.toInt → x4.toInt ≤ (8 : Int) → 8 - x4.toInt < (n : Int) → AW ad E0 μX11_sidesWithResult (d + 5) (fun r m' => WT m' ∧ Fx (RS [14]) m0 m' ∧ ∃ v : Int32, r = some (.int v)) 5 [(0, .ref (ad 0)), (1, .int x1), (2, .int x2), (3, .int x3), (4, .int x4)] [] m) := by
  intro n
  induction n with
  | zero =>
    intros
    exfalso
    omega
  | succ n ih =>
    intro m x1 x2 x3 x4 w f j1 j2 j3 j4 hn
    refine g_X11_sidesWithResult_5  ?_
    refine ⟨?_, ?_⟩
    · intro c1
      have r2 := w.at (a := 3) (k := 3) rfl
      have k3 := z_le c1
      exact ⟨w, f, _, rfl⟩
    · intro c4
      have r5 := w.at (a := 3) (k := 3) rfl
      have k6 := z_nle c4
      refine ⟨?_, ?_⟩
      · intro c7
        have k8 := z_eq c7
        have t9 := ti_addc (x := x4) (y := (1 : Int32)) (c := 1) rfl (by omega)
        exact ih _ _ _ _ _ w f (by show (0 : Int) ≤ (x1).toInt; omega) (by show (x1).toInt ≤ (7 : Int); omega) (by show (0 : Int) ≤ ((x4 + (1 : Int32))).toInt; omega) (by show ((x4 + (1 : Int32))).toInt ≤ (8 : Int); omega) (by show 8 - ((x4 + (1 : Int32))).toInt < _; omega)
      · intro c10
        have k11 := z_ne c10
        refine (s_X1_result w SS_21 (by show (0 : Int) ≤ (x1).toInt; omega) (by show (x1).toInt ≤ (7 : Int); omega) (by show (0 : Int) ≤ (x4).toInt; omega) (by show (x4).toInt ≤ (7 : Int); omega)).to ?_
        rintro _ m1 ⟨w_m1, g12, v2, rfl, p13, p14⟩
        have f_m1 : Fx (RS [14]) m0 m1 := f.tr g12 (RS_sub rfl)
        refine ⟨v2, rfl, ?_⟩
        refine ⟨?_, ?_⟩
        · intro c15
          have k16 := z_ne c15
          have t17 := ti_addc (x := x4) (y := (1 : Int32)) (c := 1) rfl (by omega)
          exact ih _ _ _ _ _ w_m1 f_m1 (by show (0 : Int) ≤ (x1).toInt; omega) (by show (x1).toInt ≤ (7 : Int); omega) (by show (0 : Int) ≤ ((x4 + (1 : Int32))).toInt; omega) (by show ((x4 + (1 : Int32))).toInt ≤ (8 : Int); omega) (by show 8 - ((x4 + (1 : Int32))).toInt < _; omega)
        · intro c18
          have k19 := z_eq c18
          have t20 := ti_addc (x := x4) (y := (1 : Int32)) (c := 1) rfl (by omega)
          exact ih _ _ _ _ _ w_m1 f_m1 (by show (0 : Int) ≤ (x1).toInt; omega) (by show (x1).toInt ≤ (7 : Int); omega) (by show (0 : Int) ≤ ((x4 + (1 : Int32))).toInt; omega) (by show ((x4 + (1 : Int32))).toInt ≤ (8 : Int); omega) (by show 8 - ((x4 + (1 : Int32))).toInt < _; omega)
set_option maxHeartbeats 4000000 in
theorem s_X11_sidesWithResult {ad : Nat → Nat} {d : Nat} {m : Wm} {x1 x2 : Int32} (w : WT m) (i1 : (0 : Int) ≤ x1.toInt) (i2 : x1.toInt ≤ (7 : Int)) : Ct ad μX11_sidesWithResult (d + 5) [.ref (ad 0), .int x1, .int x2] m (fun r m' => WT m' ∧ Fx (RS [14]) m m' ∧ ∃ v : Int32, r = some (.int v)) := by
  have f : Fx (RS [14]) m m := Fx.rf
  refine v_X11_sidesWithResult  ?_
  exact (l_X11_sidesWithResult (m0 := m) 1000000) _ _ _ _ _ w f (by show (0 : Int) ≤ (x1).toInt; omega) (by show (x1).toInt ≤ (7 : Int); omega) (by show (0 : Int) ≤ (0 : Int); omega) (by show (0 : Int) ≤ (8 : Int); omega) (by show 8 - (0 : Int) < _; omega)
set_option maxHeartbeats 4000000 in
theorem s_X11_beats {ad : Nat → Nat} {d : Nat} {m : Wm} {x1 : Int32} (w : WT m) : Ct ad μX11_beats (d + 6) [.ref (ad 0), .int x1] m (fun r m' => WT m' ∧ Fx (RS [9, 14]) m m' ∧ ∃ v : Int32, r = some (.int v)) := by
  have f : Fx (RS [9, 14]) m m := Fx.rf
  refine v_X11_beats  ?_
  refine (s_X1_has w).to ?_
  rintro _ m1 ⟨w_m1, g1, v2, rfl, p3, p4, p2⟩
  have f_m1 : Fx (RS [9, 14]) m m1 := f.tr g1 (RS_sub rfl)
  have p5 : (v2.toInt = 0 ∧ ((x1).toInt < 0 ∨ ((m.1 3 3)).toInt ≤ (x1).toInt)) ∨ (v2.toInt = 1 ∧ 0 ≤ (x1).toInt ∧ (x1).toInt < ((m.1 3 3)).toInt ∧ (x1).toInt ≤ 7) := p2
  clear p2
  refine ⟨v2, rfl, ?_⟩
  refine ⟨?_, ?_⟩
  · intro c6
    have k7 := y_ner (n := 0) rfl c6
    refine (s_X11_sidesWithResult w_m1 (by show (0 : Int) ≤ (x1).toInt; omega) (by show (x1).toInt ≤ (7 : Int); omega)).to ?_
    rintro _ m3 ⟨w_m3, g8, v4, rfl⟩
    have f_m3 : Fx (RS [9, 14]) m m3 := f_m1.tr g8 (RS_sub rfl)
    refine ⟨v4, rfl, ?_⟩
    refine (s_X11_tell w_m3).to ?_
    rintro _ m5 ⟨w_m5, g9, rfl⟩
    have f_m5 : Fx (RS [9, 14]) m m5 := f_m3.tr g9 (RS_sub rfl)
    refine ⟨rfl, ?_⟩
    refine (s_X11_sidesWithResult w_m5 (by show (0 : Int) ≤ (x1).toInt; omega) (by show (x1).toInt ≤ (7 : Int); omega)).to ?_
    rintro _ m6 ⟨w_m6, g10, v7, rfl⟩
    have f_m6 : Fx (RS [9, 14]) m m6 := f_m5.tr g10 (RS_sub rfl)
    refine ⟨v7, rfl, ?_⟩
    exact ⟨w_m6, f_m6, _, rfl⟩
  · intro c11
    have k12 := y_eqr (n := 0) rfl c11
    exact ⟨w_m1, f_m1, _, rfl⟩
set_option maxHeartbeats 4000000 in
theorem l_X11_isKing {ad : Nat → Nat} {d : Nat} {m0 : Wm}  : ∀ n : Nat, (∀ (m : Wm) (x1 x2 x3 : Int32), WT m → Fx (RS []) m0 m → (0 : Int) ≤ x1.toInt → x1.toInt ≤ (7 : Int) → (0 : Int) ≤ x3.toInt → x3.toInt ≤ (8 : Int) → 8 - x3.toInt < (n : Int) → AW ad E0 μX11_isKing d (fun r m' => WT m' ∧ Fx (RS []) m0 m' ∧ ∃ v : Int32, r = some (.int v) ∧ (0 : Int) ≤ v.toInt ∧ v.toInt ≤ 1) 13 [(0, .ref (ad 0)), (1, .int x1), (2, .int x2), (3, .int x3)] [] m) := by
  intro n
  induction n with
  | zero =>
    intros
    exfalso
    omega
  | succ n ih =>
    intro m x1 x2 x3 w f j1 j2 j3 j4 hn
    refine g_X11_isKing_13  ?_
    refine ⟨?_, ?_⟩
    · intro c1
      have r2 := w.at (a := 3) (k := 3) rfl
      have k3 := z_le c1
      refine ⟨?_, ?_⟩
      · intro c4
        have k5 := z_ne c4
        exact ⟨w, f, _, rfl, (by show (0 : Int) ≤ (0 : Int); omega), (by show (0 : Int) ≤ (1 : Int); omega)⟩
      · intro c6
        have k7 := z_eq c6
        exact ⟨w, f, _, rfl, (by show (0 : Int) ≤ (1 : Int); omega), (by show (1 : Int) ≤ (1 : Int); omega)⟩
    · intro c8
      have r9 := w.at (a := 3) (k := 3) rfl
      have k10 := z_nle c8
      refine ⟨?_, ?_⟩
      · exact vpi (by omega) (by omega)
      · refine ⟨?_, ?_⟩
        · intro c11
          have t12 := t_and1 ((m.1 149 x1.toNatClampNeg) >>> (x3 &&& 31))
          have k13 := y_eqr (n := 0) rfl c11
          have t14 := ti_addc (x := x3) (y := (1 : Int32)) (c := 1) rfl (by omega)
          exact ih _ _ _ _ w f (by show (0 : Int) ≤ (x1).toInt; omega) (by show (x1).toInt ≤ (7 : Int); omega) (by show (0 : Int) ≤ ((x3 + (1 : Int32))).toInt; omega) (by show ((x3 + (1 : Int32))).toInt ≤ (8 : Int); omega) (by show 8 - ((x3 + (1 : Int32))).toInt < _; omega)
        · intro c15
          have t16 := t_and1 ((m.1 149 x1.toNatClampNeg) >>> (x3 &&& 31))
          have k17 := y_ner (n := 0) rfl c15
          refine ⟨?_, ?_⟩
          · exact vpi (by omega) (by omega)
          · have t18 := ti_addc (x := x3) (y := (1 : Int32)) (c := 1) rfl (by omega)
            exact ih _ _ _ _ w f (by show (0 : Int) ≤ (x1).toInt; omega) (by show (x1).toInt ≤ (7 : Int); omega) (by show (0 : Int) ≤ ((x3 + (1 : Int32))).toInt; omega) (by show ((x3 + (1 : Int32))).toInt ≤ (8 : Int); omega) (by show 8 - ((x3 + (1 : Int32))).toInt < _; omega)
set_option maxHeartbeats 4000000 in
theorem s_X11_isKing {ad : Nat → Nat} {d : Nat} {m : Wm} {x1 : Int32} (w : WT m) (i1 : (0 : Int) ≤ x1.toInt) (i2 : x1.toInt ≤ (7 : Int)) : Ct ad μX11_isKing d [.ref (ad 0), .int x1] m (fun r m' => WT m' ∧ Fx (RS []) m m' ∧ ∃ v : Int32, r = some (.int v) ∧ (0 : Int) ≤ v.toInt ∧ v.toInt ≤ 1) := by
  have f : Fx (RS []) m m := Fx.rf
  refine v_X11_isKing  ?_
  refine ⟨?_, ?_⟩
  · exact vpi (by omega) (by omega)
  · exact (l_X11_isKing (m0 := m) 1000000) _ _ _ _ w f (by show (0 : Int) ≤ (x1).toInt; omega) (by show (x1).toInt ≤ (7 : Int); omega) (by show (0 : Int) ≤ (0 : Int); omega) (by show (0 : Int) ≤ (8 : Int); omega) (by show 8 - (0 : Int) < _; omega)
set_option maxHeartbeats 4000000 in
theorem l_X11_kings {ad : Nat → Nat} {d : Nat} {m0 : Wm}  : ∀ n : Nat, (∀ (m : Wm) (x1 x2 : Int32), WT m → Fx (RS [9, 14]) m0 m → (0 : Int) ≤ x2.toInt → x2.toInt ≤ (8 : Int) → 1000 - x2.toInt < (n : Int) → AW ad E0 μX11_kings (d + 6) (fun r m' => WT m' ∧ Fx (RS [9, 14]) m0 m' ∧ ∃ v : Int32, r = some (.int v)) 4 [(0, .ref (ad 0)), (1, .int x1), (2, .int x2)] [] m) ∧ (∀ (m : Wm) (x1 x2 x3 : Int32), WT m → Fx (RS [9, 14]) m0 m → (0 : Int) ≤ x3.toInt → x3.toInt ≤ (8 : Int) → 8 - x3.toInt < (n : Int) → AW ad E0 μX11_kings (d + 6) (fun r m' => WT m' ∧ Fx (RS [9, 14]) m0 m' ∧ ∃ v : Int32, r = some (.int v)) 52 [(0, .ref (ad 0)), (1, .int x1), (2, .int x2), (3, .int x3)] [] m) := by
  intro n
  induction n with
  | zero =>
    refine ⟨?_, ?_⟩ <;> intros <;> exfalso <;> omega
  | succ n ih =>
    refine ⟨?_, ?_⟩
    · intro m x1 x2 w f j1 j2 hn
      refine g_X11_kings_4  ?_
      refine ⟨?_, ?_⟩
      · intro c1
        have r2 := w.at (a := 3) (k := 3) rfl
        have k3 := z_le c1
        exact ih.2 _ _ _ _ w f (by show (0 : Int) ≤ (0 : Int); omega) (by show (0 : Int) ≤ (8 : Int); omega) (by show 8 - (0 : Int) < _; omega)
      · intro c4
        have r5 := w.at (a := 3) (k := 3) rfl
        have k6 := z_nle c4
        refine (s_X11_sidesWithResult w (by show (0 : Int) ≤ (x2).toInt; omega) (by show (x2).toInt ≤ (7 : Int); omega)).to ?_
        rintro _ m1 ⟨w_m1, g7, v2, rfl⟩
        have f_m1 : Fx (RS [9, 14]) m0 m1 := f.tr g7 (RS_sub rfl)
        refine ⟨v2, rfl, ?_⟩
        refine ⟨?_, ?_⟩
        · exact vpi (by omega) (by omega)
        · refine ⟨?_, ?_⟩
          · exact vpi (by omega) (by omega)
          · refine ⟨?_, ?_⟩
            · intro c8
              have k9 := y_ner (n := 0) rfl c8
              have w10 : WT (uI m1 149 x2.toNatClampNeg v2) := w_m1.n rfl
              have f10 : Fx (RS [9, 14]) m0 (uI m1 149 x2.toNatClampNeg v2) := f_m1.i rfl
              have t11 := ti_addc (x := x2) (y := (1 : Int32)) (c := 1) rfl (by omega)
              exact ih.1 _ _ _ w10 f10 (by show (0 : Int) ≤ ((x2 + (1 : Int32))).toInt; omega) (by show ((x2 + (1 : Int32))).toInt ≤ (8 : Int); omega) (by show 1000 - ((x2 + (1 : Int32))).toInt < _; omega)
            · intro c12
              have k13 := y_eqr (n := 0) rfl c12
              have w14 : WT (uI m1 149 x2.toNatClampNeg v2) := w_m1.n rfl
              have f14 : Fx (RS [9, 14]) m0 (uI m1 149 x2.toNatClampNeg v2) := f_m1.i rfl
              have t15 := ti_addc (x := x2) (y := (1 : Int32)) (c := 1) rfl (by omega)
              exact ih.1 _ _ _ w14 f14 (by show (0 : Int) ≤ ((x2 + (1 : Int32))).toInt; omega) (by show ((x2 + (1 : Int32))).toInt ≤ (8 : Int); omega) (by show 1000 - ((x2 + (1 : Int32))).toInt < _; omega)
    · intro m x1 x2 x3 w f j1 j2 hn
      refine g_X11_kings_52  ?_
      refine ⟨?_, ?_⟩
      · intro c1
        have r2 := w.at (a := 3) (k := 3) rfl
        have k3 := z_le c1
        refine (s_X11_tell w).to ?_
        rintro _ m1 ⟨w_m1, g4, rfl⟩
        have f_m1 : Fx (RS [9, 14]) m0 m1 := f.tr g4 (RS_sub rfl)
        refine ⟨rfl, ?_⟩
        exact ⟨w_m1, f_m1, _, rfl⟩
      · intro c5
        have r6 := w.at (a := 3) (k := 3) rfl
        have k7 := z_nle c5
        refine (s_X11_isKing w (by show (0 : Int) ≤ (x3).toInt; omega) (by show (x3).toInt ≤ (7 : Int); omega)).to ?_
        rintro _ m2 ⟨w_m2, g8, v3, rfl, p9, p10⟩
        have f_m2 : Fx (RS [9, 14]) m0 m2 := f.tr g8 (RS_sub rfl)
        refine ⟨v3, rfl, ?_⟩
        refine ⟨?_, ?_⟩
        · intro c11
          have k12 := y_eqr (n := 0) rfl c11
          have t13 := ti_addc (x := x3) (y := (1 : Int32)) (c := 1) rfl (by omega)
          exact ih.2 _ _ _ _ w_m2 f_m2 (by show (0 : Int) ≤ ((x3 + (1 : Int32))).toInt; omega) (by show ((x3 + (1 : Int32))).toInt ≤ (8 : Int); omega) (by show 8 - ((x3 + (1 : Int32))).toInt < _; omega)
        · intro c14
          have k15 := y_ner (n := 0) rfl c14
          have t16 := ti_addc (x := x3) (y := (1 : Int32)) (c := 1) rfl (by omega)
          exact ih.2 _ _ _ _ w_m2 f_m2 (by show (0 : Int) ≤ ((x3 + (1 : Int32))).toInt; omega) (by show ((x3 + (1 : Int32))).toInt ≤ (8 : Int); omega) (by show 8 - ((x3 + (1 : Int32))).toInt < _; omega)
set_option maxHeartbeats 4000000 in
theorem s_X11_kings {ad : Nat → Nat} {d : Nat} {m : Wm} (w : WT m) : Ct ad μX11_kings (d + 6) [.ref (ad 0)] m (fun r m' => WT m' ∧ Fx (RS [9, 14]) m m' ∧ ∃ v : Int32, r = some (.int v)) := by
  have f : Fx (RS [9, 14]) m m := Fx.rf
  refine v_X11_kings  ?_
  exact (l_X11_kings (m0 := m) 1000000).1 _ _ _ w f (by show (0 : Int) ≤ (0 : Int); omega) (by show (0 : Int) ≤ (8 : Int); omega) (by show 1000 - (0 : Int) < _; omega)
set_option maxHeartbeats 4000000 in
theorem l_X11_master {ad : Nat → Nat} {d : Nat} {m0 : Wm}  : ∀ n : Nat, (∀ (m : Wm) (x1 x2 x3 x4 : Int32), WT m → Fx (RS [9]) m0 m → (0 : Int) ≤ x2.toInt → x2.toInt ≤ (7 : Int) → (0 : Int) ≤ x4.toInt → x4.toInt ≤ (8 : Int) → 1000 - x4.toInt < (n : Int) → AW ad E0 μX11_master (d + 1) (fun r m' => WT m' ∧ Fx (RS [9]) m0 m' ∧ ∃ v : Int32, r = some (.int v)) 34 [(0, .ref (ad 0)), (1, .int x1), (2, .int x2), (3, .int x3), (4, .int x4)] [] m) ∧ (∀ (m : Wm) (x1 x2 x3 x4 x5 x6 : Int32), WT m → Fx (RS [9]) m0 m → (0 : Int) ≤ x2.toInt → x2.toInt ≤ (7 : Int) → (0 : Int) ≤ x6.toInt → x6.toInt ≤ (8 : Int) → 8 - x6.toInt < (n : Int) → AW ad E0 μX11_master (d + 1) (fun r m' => WT m' ∧ Fx (RS [9]) m0 m' ∧ ∃ v : Int32, r = some (.int v)) 105 [(0, .ref (ad 0)), (1, .int x1), (2, .int x2), (3, .int x3), (4, .int x4), (5, .int x5), (6, .int x6)] [] m) := by
  intro n
  induction n with
  | zero =>
    refine ⟨?_, ?_⟩ <;> intros <;> exfalso <;> omega
  | succ n ih =>
    refine ⟨?_, ?_⟩
    · intro m x1 x2 x3 x4 w f j1 j2 j3 j4 hn
      refine g_X11_master_34  ?_
      refine ⟨?_, ?_⟩
      · intro c1
        have r2 := w.at (a := 3) (k := 3) rfl
        have k3 := z_le c1
        refine (s_X8_skillOf w SS_21).to ?_
        rintro _ m1 ⟨w_m1, g4, v2, rfl⟩
        have f_m1 : Fx (RS [9]) m0 m1 := f.tr g4 (RS_sub rfl)
        refine ⟨v2, rfl, ?_⟩
        exact ih.2 _ _ _ _ _ _ _ w_m1 f_m1 (by show (0 : Int) ≤ (x2).toInt; omega) (by show (x2).toInt ≤ (7 : Int); omega) (by show (0 : Int) ≤ (0 : Int); omega) (by show (0 : Int) ≤ (8 : Int); omega) (by show 8 - (0 : Int) < _; omega)
      · intro c5
        have r6 := w.at (a := 3) (k := 3) rfl
        have k7 := z_nle c5
        refine (s_X8_skillOf w SS_21).to ?_
        rintro _ m3 ⟨w_m3, g8, v4, rfl⟩
        have f_m3 : Fx (RS [9]) m0 m3 := f.tr g8 (RS_sub rfl)
        refine ⟨v4, rfl, ?_⟩
        refine (s_X8_skillOf w_m3 SS_21).to ?_
        rintro _ m5 ⟨w_m5, g9, v6, rfl⟩
        have f_m5 : Fx (RS [9]) m0 m5 := f_m3.tr g9 (RS_sub rfl)
        refine ⟨v6, rfl, ?_⟩
        refine ⟨?_, ?_⟩
        · intro c10
          have k11 := z_le c10
          have t12 := ti_addc (x := x4) (y := (1 : Int32)) (c := 1) rfl (by omega)
          exact ih.1 _ _ _ _ _ w_m5 f_m5 (by show (0 : Int) ≤ (x2).toInt; omega) (by show (x2).toInt ≤ (7 : Int); omega) (by show (0 : Int) ≤ ((x4 + (1 : Int32))).toInt; omega) (by show ((x4 + (1 : Int32))).toInt ≤ (8 : Int); omega) (by show 1000 - ((x4 + (1 : Int32))).toInt < _; omega)
        · intro c13
          have k14 := z_nle c13
          have t15 := ti_addc (x := x4) (y := (1 : Int32)) (c := 1) rfl (by omega)
          exact ih.1 _ _ _ _ _ w_m5 f_m5 (by show (0 : Int) ≤ (x4).toInt; omega) (by show (x4).toInt ≤ (7 : Int); omega) (by show (0 : Int) ≤ ((x4 + (1 : Int32))).toInt; omega) (by show ((x4 + (1 : Int32))).toInt ≤ (8 : Int); omega) (by show 1000 - ((x4 + (1 : Int32))).toInt < _; omega)
    · intro m x1 x2 x3 x4 x5 x6 w f j1 j2 j3 j4 hn
      refine g_X11_master_105  ?_
      refine ⟨?_, ?_⟩
      · intro c1
        have r2 := w.at (a := 3) (k := 3) rfl
        have k3 := z_le c1
        refine (s_X11_tell__ w).to ?_
        rintro _ m1 ⟨w_m1, g4, rfl⟩
        have f_m1 : Fx (RS [9]) m0 m1 := f.tr g4 (RS_sub rfl)
        refine ⟨rfl, ?_⟩
        exact ⟨w_m1, f_m1, _, rfl⟩
      · intro c5
        have r6 := w.at (a := 3) (k := 3) rfl
        have k7 := z_nle c5
        refine (s_X8_skillOf w SS_21).to ?_
        rintro _ m2 ⟨w_m2, g8, v3, rfl⟩
        have f_m2 : Fx (RS [9]) m0 m2 := f.tr g8 (RS_sub rfl)
        refine ⟨v3, rfl, ?_⟩
        refine ⟨?_, ?_⟩
        · intro c9
          have k10 := z_ne c9
          have t11 := ti_addc (x := x6) (y := (1 : Int32)) (c := 1) rfl (by omega)
          exact ih.2 _ _ _ _ _ _ _ w_m2 f_m2 (by show (0 : Int) ≤ (x2).toInt; omega) (by show (x2).toInt ≤ (7 : Int); omega) (by show (0 : Int) ≤ ((x6 + (1 : Int32))).toInt; omega) (by show ((x6 + (1 : Int32))).toInt ≤ (8 : Int); omega) (by show 8 - ((x6 + (1 : Int32))).toInt < _; omega)
        · intro c12
          have k13 := z_eq c12
          have t14 := ti_addc (x := x6) (y := (1 : Int32)) (c := 1) rfl (by omega)
          exact ih.2 _ _ _ _ _ _ _ w_m2 f_m2 (by show (0 : Int) ≤ (x2).toInt; omega) (by show (x2).toInt ≤ (7 : Int); omega) (by show (0 : Int) ≤ ((x6 + (1 : Int32))).toInt; omega) (by show ((x6 + (1 : Int32))).toInt ≤ (8 : Int); omega) (by show 8 - ((x6 + (1 : Int32))).toInt < _; omega)
set_option maxHeartbeats 4000000 in
theorem s_X11_master {ad : Nat → Nat} {d : Nat} {m : Wm} {x1 : Int32} (w : WT m) : Ct ad μX11_master (d + 1) [.ref (ad 0), .int x1] m (fun r m' => WT m' ∧ Fx (RS [9]) m m' ∧ ∃ v : Int32, r = some (.int v)) := by
  have f : Fx (RS [9]) m m := Fx.rf
  refine v_X11_master  ?_
  refine (s_X1_knows w).to ?_
  rintro _ m1 ⟨w_m1, g1, v2, rfl, p2, p3⟩
  have f_m1 : Fx (RS [9]) m m1 := f.tr g1 (RS_sub rfl)
  refine ⟨v2, rfl, ?_⟩
  refine ⟨?_, ?_⟩
  · intro c4
    have k5 := y_ner (n := 0) rfl c4
    refine ⟨?_, ?_⟩
    · intro c6
      have r7 := w_m1.at (a := 3) (k := 3) rfl
      have k8 := y_ner (n := 0) rfl c6
      exact (l_X11_master (m0 := m) 1000000).1 _ _ _ _ _ w_m1 f_m1 (by show (0 : Int) ≤ (0 : Int); omega) (by show (0 : Int) ≤ (7 : Int); omega) (by show (0 : Int) ≤ (0 : Int); omega) (by show (0 : Int) ≤ (8 : Int); omega) (by show 1000 - (0 : Int) < _; omega)
    · intro c9
      have r10 := w_m1.at (a := 3) (k := 3) rfl
      have k11 := y_eqr (n := 0) rfl c9
      exact ⟨w_m1, f_m1, _, rfl⟩
  · intro c12
    have k13 := y_eqr (n := 0) rfl c12
    exact ⟨w_m1, f_m1, _, rfl⟩
set_option maxHeartbeats 4000000 in
theorem s_X11_standsAhead {ad : Nat → Nat} {d : Nat} {m : Wm} {x1 x2 : Int32} (w : WT m) (i1 : (0 : Int) ≤ x1.toInt) (i2 : x1.toInt ≤ (7 : Int)) (i3 : (0 : Int) ≤ x2.toInt) (i4 : x2.toInt ≤ (7 : Int)) : Ct ad μX11_standsAhead d [.ref (ad 0), .int x1, .int x2] m (fun r m' => WT m' ∧ Fx (RS []) m m' ∧ ∃ v : Int32, r = some (.int v) ∧ (0 : Int) ≤ v.toInt ∧ v.toInt ≤ 1) := by
  have f : Fx (RS []) m m := Fx.rf
  refine v_X11_standsAhead  ?_
  refine ⟨?_, ?_⟩
  · exact vpi (by omega) (by omega)
  · refine ⟨?_, ?_⟩
    · exact vpi (by omega) (by omega)
    · refine ⟨?_, ?_⟩
      · intro c1
        have k2 := z_eq c1
        refine ⟨?_, ?_⟩
        · exact vpi (by omega) (by omega)
        · refine ⟨?_, ?_⟩
          · exact vpi (by omega) (by omega)
          · refine ⟨?_, ?_⟩
            · intro c3
              have k4 := z_eq c3
              refine ⟨?_, ?_⟩
              · intro c5
                have k6 := z_le c5
                exact ⟨w, f, _, rfl, (by show (0 : Int) ≤ (0 : Int); omega), (by show (0 : Int) ≤ (1 : Int); omega)⟩
              · intro c7
                have k8 := z_nle c7
                exact ⟨w, f, _, rfl, (by show (0 : Int) ≤ (1 : Int); omega), (by show (1 : Int) ≤ (1 : Int); omega)⟩
            · intro c9
              have k10 := z_ne c9
              refine ⟨?_, ?_⟩
              · exact vpi (by omega) (by omega)
              · refine ⟨?_, ?_⟩
                · exact vpi (by omega) (by omega)
                · refine ⟨?_, ?_⟩
                  · intro c11
                    have k12 := z_le c11
                    exact ⟨w, f, _, rfl, (by show (0 : Int) ≤ (0 : Int); omega), (by show (0 : Int) ≤ (1 : Int); omega)⟩
                  · intro c13
                    have k14 := z_nle c13
                    exact ⟨w, f, _, rfl, (by show (0 : Int) ≤ (1 : Int); omega), (by show (1 : Int) ≤ (1 : Int); omega)⟩
      · intro c15
        have k16 := z_ne c15
        refine ⟨?_, ?_⟩
        · exact vpi (by omega) (by omega)
        · refine ⟨?_, ?_⟩
          · exact vpi (by omega) (by omega)
          · refine ⟨?_, ?_⟩
            · intro c17
              have k18 := z_le c17
              exact ⟨w, f, _, rfl, (by show (0 : Int) ≤ (0 : Int); omega), (by show (0 : Int) ≤ (1 : Int); omega)⟩
            · intro c19
              have k20 := z_nle c19
              exact ⟨w, f, _, rfl, (by show (0 : Int) ≤ (1 : Int); omega), (by show (1 : Int) ≤ (1 : Int); omega)⟩
set_option maxHeartbeats 4000000 in
theorem l_X11_table {ad : Nat → Nat} {d : Nat} {m0 : Wm}  : ∀ n : Nat, (∀ (m : Wm) (x1 : Int32), WT m → Fx (RS [9, 14]) m0 m → (0 : Int) ≤ x1.toInt → x1.toInt ≤ (8 : Int) → ((m.1 3 3).toInt = (m0.1 3 3).toInt) → 1000 - x1.toInt < (n : Int) → AW ad E0 μX11_table (d + 5) (fun r m' => WT m' ∧ Fx (RS [9, 14]) m0 m' ∧ ∃ v : Int32, r = some (.int v) ∧ (v.toInt = (m0.1 3 3).toInt)) 2 [(0, .ref (ad 0)), (1, .int x1)] [] m) ∧ (∀ (m : Wm) (x1 : Int32), WT m → Fx (RS [9, 14]) m0 m → (0 : Int) ≤ x1.toInt → x1.toInt ≤ (8 : Int) → ((m.1 3 3).toInt = (m0.1 3 3).toInt) → (8 - x1.toInt) * 20 + 15 < (n : Int) → AW ad E0 μX11_table (d + 5) (fun r m' => WT m' ∧ Fx (RS [9, 14]) m0 m' ∧ ∃ v : Int32, r = some (.int v) ∧ (v.toInt = (m0.1 3 3).toInt)) 39 [(0, .ref (ad 0)), (1, .int x1)] [] m) ∧ (∀ (m : Wm) (x1 x2 x3 : Int32), WT m → Fx (RS [9, 14]) m0 m → (0 : Int) ≤ x1.toInt → x1.toInt ≤ (7 : Int) → (0 : Int) ≤ x2.toInt → x2.toInt ≤ (8 : Int) → (0 : Int) ≤ x3.toInt → x3.toInt ≤ (8 : Int) → (x2.toInt ≤ x3.toInt) → ((m.1 3 3).toInt = (m0.1 3 3).toInt) → (8 - x1.toInt) * 20 + 8 - x3.toInt < (n : Int) → AW ad E0 μX11_table (d + 5) (fun r m' => WT m' ∧ Fx (RS [9, 14]) m0 m' ∧ ∃ v : Int32, r = some (.int v) ∧ (v.toInt = (m0.1 3 3).toInt)) 54 [(0, .ref (ad 0)), (1, .int x1), (2, .int x2), (3, .int x3)] [] m) := by
  intro n
  induction n with
  | zero =>
    refine ⟨?_, ?_, ?_⟩ <;> intros <;> exfalso <;> omega
  | succ n ih =>
    refine ⟨?_, ?_, ?_⟩
    · intro m x1 w f j1 j2 j3 hn
      refine g_X11_table_2  ?_
      refine ⟨?_, ?_⟩
      · intro c1
        have r2 := w.at (a := 3) (k := 3) rfl
        have k3 := z_le c1
        exact ih.2.1 _ _ w f (by show (0 : Int) ≤ (0 : Int); omega) (by show (0 : Int) ≤ (8 : Int); omega) (by show ((m.1 3 3)).toInt = (m0.1 3 3).toInt; omega) (by show (8 - (0 : Int)) * 20 + 15 < _; omega)
      · intro c4
        have r5 := w.at (a := 3) (k := 3) rfl
        have k6 := z_nle c4
        refine (s_X1_power w SS_21 (by show (0 : Int) ≤ (x1).toInt; omega) (by show (x1).toInt ≤ (7 : Int); omega)).to ?_
        rintro _ m1 ⟨w_m1, g7, v2, rfl⟩
        have f_m1 : Fx (RS [9, 14]) m0 m1 := f.tr g7 (RS_sub rfl)
        have e8 : (m1.1 3 3).toInt = ((m.1 3 3)).toInt := congrArg _ (g7.at (a := 3) (k := 3) (by decide))
        refine ⟨v2, rfl, ?_⟩
        refine ⟨?_, ?_⟩
        · exact vpi (by omega) (by omega)
        · have w9 : WT (uI m1 149 x1.toNatClampNeg v2) := w_m1.n rfl
          have f9 : Fx (RS [9, 14]) m0 (uI m1 149 x1.toNatClampNeg v2) := f_m1.i rfl
          have t10 := ti_addc (x := x1) (y := (1 : Int32)) (c := 1) rfl (by omega)
          have r11 := w_m1.at (a := 3) (k := 3) rfl
          exact ih.1 _ _ w9 f9 (by show (0 : Int) ≤ ((x1 + (1 : Int32))).toInt; omega) (by show ((x1 + (1 : Int32))).toInt ≤ (8 : Int); omega) (by show ((m1.1 3 3)).toInt = (m0.1 3 3).toInt; omega) (by show 1000 - ((x1 + (1 : Int32))).toInt < _; omega)
    · intro m x1 w f j1 j2 j3 hn
      refine g_X11_table_39  ?_
      refine ⟨?_, ?_⟩
      · intro c1
        have r2 := w.at (a := 3) (k := 3) rfl
        have k3 := z_le c1
        have w4 : WT (uI m 0 18 (m.1 3 3)) := w.t rfl (by show (0 : Int) ≤ ((m.1 3 3)).toInt; omega) (by show ((m.1 3 3)).toInt ≤ 10; omega)
        have f4 : Fx (RS [9, 14]) m0 (uI m 0 18 (m.1 3 3)) := f.i rfl
        exact ⟨w4, f4, _, rfl, (by show ((m.1 3 3)).toInt = (m0.1 3 3).toInt; omega)⟩
      · intro c5
        have r6 := w.at (a := 3) (k := 3) rfl
        have k7 := z_nle c5
        exact ih.2.2 _ _ _ _ w f (by show (0 : Int) ≤ (x1).toInt; omega) (by show (x1).toInt ≤ (7 : Int); omega) (by show (0 : Int) ≤ (0 : Int); omega) (by show (0 : Int) ≤ (8 : Int); omega) (by show (0 : Int) ≤ (0 : Int); omega) (by show (0 : Int) ≤ (8 : Int); omega) (by show (0 : Int) ≤ (0 : Int); omega) (by show ((m.1 3 3)).toInt = (m0.1 3 3).toInt; omega) (by show (8 - (x1).toInt) * 20 + 8 - (0 : Int) < _; omega)
    · intro m x1 x2 x3 w f j1 j2 j3 j4 j5 j6 j7 j8 hn
      refine g_X11_table_54  ?_
      refine ⟨?_, ?_⟩
      · intro c1
        have r2 := w.at (a := 3) (k := 3) rfl
        have k3 := z_le c1
        refine ⟨?_, ?_⟩
        · exact vpi (by omega) (by omega)
        · have w4 : WT (uL m 150 x2.toNatClampNeg x1.toInt64) := w.l
          have f4 : Fx (RS [9, 14]) m0 (uL m 150 x2.toNatClampNeg x1.toInt64) := f.l rfl
          have t5 := ti_addc (x := x1) (y := (1 : Int32)) (c := 1) rfl (by omega)
          exact ih.2.1 _ _ w4 f4 (by show (0 : Int) ≤ ((x1 + (1 : Int32))).toInt; omega) (by show ((x1 + (1 : Int32))).toInt ≤ (8 : Int); omega) (by show ((m.1 3 3)).toInt = (m0.1 3 3).toInt; omega) (by show (8 - ((x1 + (1 : Int32))).toInt) * 20 + 15 < _; omega)
      · intro c6
        have r7 := w.at (a := 3) (k := 3) rfl
        have k8 := z_nle c6
        refine ⟨?_, ?_⟩
        · intro c9
          have k10 := z_eq c9
          have t11 := ti_addc (x := x3) (y := (1 : Int32)) (c := 1) rfl (by omega)
          exact ih.2.2 _ _ _ _ w f (by show (0 : Int) ≤ (x1).toInt; omega) (by show (x1).toInt ≤ (7 : Int); omega) (by show (0 : Int) ≤ (x2).toInt; omega) (by show (x2).toInt ≤ (8 : Int); omega) (by show (0 : Int) ≤ ((x3 + (1 : Int32))).toInt; omega) (by show ((x3 + (1 : Int32))).toInt ≤ (8 : Int); omega) (by show (x2).toInt ≤ ((x3 + (1 : Int32))).toInt; omega) (by show ((m.1 3 3)).toInt = (m0.1 3 3).toInt; omega) (by show (8 - (x1).toInt) * 20 + 8 - ((x3 + (1 : Int32))).toInt < _; omega)
        · intro c12
          have k13 := z_ne c12
          refine (s_X11_standsAhead w (by show (0 : Int) ≤ (x3).toInt; omega) (by show (x3).toInt ≤ (7 : Int); omega) (by show (0 : Int) ≤ (x1).toInt; omega) (by show (x1).toInt ≤ (7 : Int); omega)).to ?_
          rintro _ m1 ⟨w_m1, g14, v2, rfl, p15, p16⟩
          have f_m1 : Fx (RS [9, 14]) m0 m1 := f.tr g14 (RS_sub rfl)
          have e17 : (m1.1 3 3).toInt = ((m.1 3 3)).toInt := congrArg _ (g14.at (a := 3) (k := 3) (by decide))
          refine ⟨v2, rfl, ?_⟩
          refine ⟨?_, ?_⟩
          · intro c18
            have k19 := y_eqr (n := 0) rfl c18
            have t20 := ti_addc (x := x3) (y := (1 : Int32)) (c := 1) rfl (by omega)
            have r21 := w_m1.at (a := 3) (k := 3) rfl
            exact ih.2.2 _ _ _ _ w_m1 f_m1 (by show (0 : Int) ≤ (x1).toInt; omega) (by show (x1).toInt ≤ (7 : Int); omega) (by show (0 : Int) ≤ (x2).toInt; omega) (by show (x2).toInt ≤ (8 : Int); omega) (by show (0 : Int) ≤ ((x3 + (1 : Int32))).toInt; omega) (by show ((x3 + (1 : Int32))).toInt ≤ (8 : Int); omega) (by show (x2).toInt ≤ ((x3 + (1 : Int32))).toInt; omega) (by show ((m1.1 3 3)).toInt = (m0.1 3 3).toInt; omega) (by show (8 - (x1).toInt) * 20 + 8 - ((x3 + (1 : Int32))).toInt < _; omega)
          · intro c22
            have k23 := y_ner (n := 0) rfl c22
            have t24 := ti_addc (x := x2) (y := (1 : Int32)) (c := 1) rfl (by omega)
            have t25 := ti_addc (x := x3) (y := (1 : Int32)) (c := 1) rfl (by omega)
            have r26 := w_m1.at (a := 3) (k := 3) rfl
            exact ih.2.2 _ _ _ _ w_m1 f_m1 (by show (0 : Int) ≤ (x1).toInt; omega) (by show (x1).toInt ≤ (7 : Int); omega) (by show (0 : Int) ≤ ((x2 + (1 : Int32))).toInt; omega) (by show ((x2 + (1 : Int32))).toInt ≤ (8 : Int); omega) (by show (0 : Int) ≤ ((x3 + (1 : Int32))).toInt; omega) (by show ((x3 + (1 : Int32))).toInt ≤ (8 : Int); omega) (by show ((x2 + (1 : Int32))).toInt ≤ ((x3 + (1 : Int32))).toInt; omega) (by show ((m1.1 3 3)).toInt = (m0.1 3 3).toInt; omega) (by show (8 - (x1).toInt) * 20 + 8 - ((x3 + (1 : Int32))).toInt < _; omega)
set_option maxHeartbeats 4000000 in
theorem s_X11_table {ad : Nat → Nat} {d : Nat} {m : Wm} (w : WT m) : Ct ad μX11_table (d + 5) [.ref (ad 0)] m (fun r m' => WT m' ∧ Fx (RS [9, 14]) m m' ∧ ∃ v : Int32, r = some (.int v) ∧ (v.toInt = (m.1 3 3).toInt)) := by
  have f : Fx (RS [9, 14]) m m := Fx.rf
  refine v_X11_table  ?_
  have r1 := w.at (a := 3) (k := 3) rfl
  exact (l_X11_table (m0 := m) 1000000).1 _ _ w f (by show (0 : Int) ≤ (0 : Int); omega) (by show (0 : Int) ≤ (8 : Int); omega) (by show ((m.1 3 3)).toInt = (m.1 3 3).toInt; omega) (by show 1000 - (0 : Int) < _; omega)
set_option maxHeartbeats 4000000 in
theorem s_X11_spread {ad : Nat → Nat} {d : Nat} {m : Wm} (w : WT m) : Ct ad μX11_spread (d + 6) [.ref (ad 0)] m (fun r m' => WT m' ∧ Fx (RS [9, 14]) m m' ∧ ∃ v : Int32, r = some (.int v)) := by
  have f : Fx (RS [9, 14]) m m := Fx.rf
  refine v_X11_spread  ?_
  refine ⟨?_, ?_⟩
  · intro c1
    have r2 := w.at (a := 3) (k := 3) rfl
    have k3 := y_ner (n := 0) rfl c1
    refine (s_X1_strongest w SS_21).to ?_
    rintro _ m1 ⟨w_m1, g4, v2, rfl, p5, p6⟩
    have f_m1 : Fx (RS [9, 14]) m m1 := f.tr g4 (RS_sub rfl)
    refine ⟨v2, rfl, ?_⟩
    refine (s_X1_weakest w_m1 SS_21).to ?_
    rintro _ m3 ⟨w_m3, g7, v4, rfl, p8, p9⟩
    have f_m3 : Fx (RS [9, 14]) m m3 := f_m1.tr g7 (RS_sub rfl)
    refine ⟨v4, rfl, ?_⟩
    refine (s_X11_tell_ w_m3).to ?_
    rintro _ m5 ⟨w_m5, g10, rfl⟩
    have f_m5 : Fx (RS [9, 14]) m m5 := f_m3.tr g10 (RS_sub rfl)
    refine ⟨rfl, ?_⟩
    refine (s_X1_power w_m5 SS_21 (by show (0 : Int) ≤ (v2).toInt; omega) (by show (v2).toInt ≤ (7 : Int); omega)).to ?_
    rintro _ m6 ⟨w_m6, g11, v7, rfl⟩
    have f_m6 : Fx (RS [9, 14]) m m6 := f_m5.tr g11 (RS_sub rfl)
    refine ⟨v7, rfl, ?_⟩
    refine (s_X1_power w_m6 SS_21 (by show (0 : Int) ≤ (v4).toInt; omega) (by show (v4).toInt ≤ (7 : Int); omega)).to ?_
    rintro _ m8 ⟨w_m8, g12, v9, rfl⟩
    have f_m8 : Fx (RS [9, 14]) m m8 := f_m6.tr g12 (RS_sub rfl)
    refine ⟨v9, rfl, ?_⟩
    exact ⟨w_m8, f_m8, _, rfl⟩
  · intro c13
    have r14 := w.at (a := 3) (k := 3) rfl
    have k15 := y_eqr (n := 0) rfl c13
    have w16 : WT (uI m 0 18 (0 : Int32)) := w.t rfl (by show (0 : Int) ≤ (0 : Int); omega) (by show (0 : Int) ≤ 10; omega)
    have f16 : Fx (RS [9, 14]) m (uI m 0 18 (0 : Int32)) := f.i rfl
    exact ⟨w16, f16, _, rfl⟩
set_option maxHeartbeats 4000000 in
theorem s_X11_rest {ad : Nat → Nat} {d : Nat} {m : Wm} (w : WT m) : Ct ad μX11_rest (d + 7) [.ref (ad 0)] m (fun r m' => WT m' ∧ Fx (RS [2, 9, 10, 12, 14]) m m' ∧ ∃ v : Int32, r = some (.int v)) := by
  have f : Fx (RS [2, 9, 10, 12, 14]) m m := Fx.rf
  refine v_X11_rest  ?_
  obtain ⟨r1, e1, q2⟩ := w.r09
  refine ⟨r1, e1, Pl_of q2, ?_⟩
  refine ⟨?_, ?_⟩
  · intro c3
    have r4 := w.pl (k := 5) q2 rfl rfl
    have k5 := y_ner (n := 0) rfl c3
    refine ⟨r1, e1, Pl_of q2, ?_⟩
    refine (s_X7_findLoop w q2).to ?_
    rintro _ m3 ⟨w_m3, g6, v4, rfl, p7, p8⟩
    have f_m3 : Fx (RS [2, 9, 10, 12, 14]) m m3 := f.tr g6 (RS_sub rfl)
    refine ⟨v4, rfl, ?_⟩
    refine ⟨?_, ?_⟩
    · intro c9
      have k10 := y_ner (n := 0) rfl c9
      have r11 := w_m3.at (a := 166) (k := 3) rfl
      refine (s_X9_total w_m3 (by show (0 : Int) ≤ ((m3.1 166 3)).toInt; omega) (by show ((m3.1 166 3)).toInt ≤ (2999 : Int); omega)).to ?_
      rintro _ m5 ⟨w_m5, g12, v6, rfl⟩
      have f_m5 : Fx (RS [2, 9, 10, 12, 14]) m m5 := f_m3.tr g12 (RS_sub rfl)
      refine ⟨v6, rfl, ?_⟩
      refine (s_X11_tell_ w_m5).to ?_
      rintro _ m7 ⟨w_m7, g13, rfl⟩
      have f_m7 : Fx (RS [2, 9, 10, 12, 14]) m m7 := f_m5.tr g13 (RS_sub rfl)
      refine ⟨rfl, ?_⟩
      have r14 := w_m7.at (a := 166) (k := 3) rfl
      exact ⟨w_m7, f_m7, _, rfl⟩
    · intro c15
      have k16 := y_eqr (n := 0) rfl c15
      exact ⟨w_m3, f_m3, _, rfl⟩
  · intro c17
    have r18 := w.pl (k := 5) q2 rfl rfl
    have k19 := y_eqr (n := 0) rfl c17
    exact ⟨w, f, _, rfl⟩
set_option maxHeartbeats 4000000 in
theorem l_X11_allChances {ad : Nat → Nat} {d : Nat} {m0 : Wm}  : ∀ n : Nat, (∀ (m : Wm) (x0 x3 : Int32) (y1 : Int64), WT m → Fx (RS []) m0 m → (0 : Int) ≤ x0.toInt → x0.toInt ≤ (6 : Int) → (0 : Int) ≤ x3.toInt → x3.toInt ≤ (6 : Int) → 6 - x3.toInt < (n : Int) → AW ad E0 μX11_allChances d (fun r m' => WT m' ∧ Fx (RS []) m0 m' ∧ ∃ v : Int64, r = some (.long v)) 4 [(0, .int x0), (1, .long y1), (3, .int x3)] [] m) := by
  intro n
  induction n with
  | zero =>
    intros
    exfalso
    omega
  | succ n ih =>
    intro m x0 x3 y1 w f j1 j2 j3 j4 hn
    refine g_X11_allChances_4  ?_
    refine ⟨?_, ?_⟩
    · intro c1
      have k2 := z_le c1
      exact ⟨w, f, _, rfl⟩
    · intro c3
      have k4 := z_nle c3
      have t5 := ti_addc (x := x3) (y := (1 : Int32)) (c := 1) rfl (by omega)
      exact ih _ _ _ _ w f (by show (0 : Int) ≤ (x0).toInt; omega) (by show (x0).toInt ≤ (6 : Int); omega) (by show (0 : Int) ≤ ((x3 + (1 : Int32))).toInt; omega) (by show ((x3 + (1 : Int32))).toInt ≤ (6 : Int); omega) (by show 6 - ((x3 + (1 : Int32))).toInt < _; omega)
set_option maxHeartbeats 4000000 in
theorem s_X11_allChances {ad : Nat → Nat} {d : Nat} {m : Wm} {x0 : Int32} (w : WT m) (i1 : (0 : Int) ≤ x0.toInt) (i2 : x0.toInt ≤ (6 : Int)) : Ct ad μX11_allChances d [.int x0] m (fun r m' => WT m' ∧ Fx (RS []) m m' ∧ ∃ v : Int64, r = some (.long v)) := by
  have f : Fx (RS []) m m := Fx.rf
  refine v_X11_allChances  ?_
  exact (l_X11_allChances (m0 := m) 1000000) _ _ _ _ w f (by show (0 : Int) ≤ (x0).toInt; omega) (by show (x0).toInt ≤ (6 : Int); omega) (by show (0 : Int) ≤ (0 : Int); omega) (by show (0 : Int) ≤ (6 : Int); omega) (by show 6 - (0 : Int) < _; omega)
set_option maxHeartbeats 4000000 in
theorem l_X11_tellFraction {ad : Nat → Nat} {d : Nat} {m0 : Wm}  : ∀ n : Nat, (∀ (m : Wm) (x9 : Int32) (y1 y3 y5 y7 : Int64), WT m → Fx (RS [9]) m0 m → (0 : Int) ≤ x9.toInt → x9.toInt ≤ (200 : Int) → 200 - x9.toInt + 1 < (n : Int) → AW ad E0 μX11_tellFraction (d + 1) (fun r m' => WT m' ∧ Fx (RS [9]) m0 m' ∧ r = none) 9 [(0, .ref (ad 0)), (1, .long y1), (3, .long y3), (5, .long y5), (7, .long y7), (9, .int x9)] [] m) ∧ (∀ (m : Wm) (y1 y3 y5 : Int64), WT m → Fx (RS [9]) m0 m → 0 + 0 < (n : Int) → AW ad E0 μX11_tellFraction (d + 1) (fun r m' => WT m' ∧ Fx (RS [9]) m0 m' ∧ r = none) 45 [(0, .ref (ad 0)), (1, .long y1), (3, .long y3), (5, .long y5)] [] m) := by
  intro n
  induction n with
  | zero =>
    refine ⟨?_, ?_⟩ <;> intros <;> exfalso <;> omega
  | succ n ih =>
    refine ⟨?_, ?_⟩
    · intro m x9 y1 y3 y5 y7 w f j1 j2 hn
      refine g_X11_tellFraction_9  ?_
      refine ⟨?_, ?_⟩
      · intro c1
        have k2 := y_lel (n := 200) rfl c1
        exact ih.2 _ _ _ _ w f (by show 0 + 0 < _; omega)
      · intro c3
        have k4 := y_nlel (n := 200) rfl c3
        refine ⟨?_, ?_⟩
        · intro c5
          exact ih.2 _ _ _ _ w f (by show 0 + 0 < _; omega)
        · intro c6
          refine ⟨?_, ?_⟩
          · exact fun q => c6 ((lg_cmp_eq _ _).mpr q)
          · have t7 := ti_addc (x := x9) (y := (1 : Int32)) (c := 1) rfl (by omega)
            exact ih.1 _ _ _ _ _ _ w f (by show (0 : Int) ≤ ((x9 + (1 : Int32))).toInt; omega) (by show ((x9 + (1 : Int32))).toInt ≤ (200 : Int); omega) (by show 200 - ((x9 + (1 : Int32))).toInt + 1 < _; omega)
    · intro m y1 y3 y5 w f  hn
      refine g_X11_tellFraction_45  ?_
      refine ⟨?_, ?_⟩
      · intro c1
        refine ⟨?_, ?_⟩
        · exact fun q => c1 ((lg_cmp_eq _ _).mpr q)
        · refine ⟨?_, ?_⟩
          · exact fun q => c1 ((lg_cmp_eq _ _).mpr q)
          · refine (s_X11_tell_ w).to ?_
            rintro _ m1 ⟨w_m1, g2, rfl⟩
            have f_m1 : Fx (RS [9]) m0 m1 := f.tr g2 (RS_sub rfl)
            refine ⟨rfl, ?_⟩
            exact ⟨w_m1, f_m1, rfl⟩
      · intro c3
        refine (s_X11_tell_ w).to ?_
        rintro _ m2 ⟨w_m2, g4, rfl⟩
        have f_m2 : Fx (RS [9]) m0 m2 := f.tr g4 (RS_sub rfl)
        refine ⟨rfl, ?_⟩
        exact ⟨w_m2, f_m2, rfl⟩
set_option maxHeartbeats 4000000 in
theorem s_X11_tellFraction {ad : Nat → Nat} {d : Nat} {m : Wm} {y1 y3 : Int64} (w : WT m) : Ct ad μX11_tellFraction (d + 1) [.ref (ad 0), .long y1, .long y3] m (fun r m' => WT m' ∧ Fx (RS [9]) m m' ∧ r = none) := by
  have f : Fx (RS [9]) m m := Fx.rf
  refine v_X11_tellFraction  ?_
  exact (l_X11_tellFraction (m0 := m) 1000000).1 _ _ _ _ _ _ w f (by show (0 : Int) ≤ (0 : Int); omega) (by show (0 : Int) ≤ (200 : Int); omega) (by show 200 - (0 : Int) + 1 < _; omega)
set_option maxHeartbeats 4000000 in
theorem s_X11_mean {ad : Nat → Nat} {d : Nat} {m : Wm} {x1 x2 : Int32} (w : WT m) : Ct ad μX11_mean (d + 7) [.ref (ad 0), .int x1, .int x2] m (fun r m' => WT m' ∧ Fx (RS [2, 9, 10, 12, 14]) m m' ∧ ∃ v : Int32, r = some (.int v)) := by
  have f : Fx (RS [2, 9, 10, 12, 14]) m m := Fx.rf
  refine v_X11_mean  ?_
  refine (s_X1_has w).to ?_
  rintro _ m1 ⟨w_m1, g1, v2, rfl, p3, p4, p2⟩
  have f_m1 : Fx (RS [2, 9, 10, 12, 14]) m m1 := f.tr g1 (RS_sub rfl)
  have p5 : (v2.toInt = 0 ∧ ((x1).toInt < 0 ∨ ((m.1 3 3)).toInt ≤ (x1).toInt)) ∨ (v2.toInt = 1 ∧ 0 ≤ (x1).toInt ∧ (x1).toInt < ((m.1 3 3)).toInt ∧ (x1).toInt ≤ 7) := p2
  clear p2
  refine ⟨v2, rfl, ?_⟩
  refine ⟨?_, ?_⟩
  · intro c6
    have k7 := y_eqr (n := 0) rfl c6
    exact ⟨w_m1, f_m1, _, rfl⟩
  · intro c8
    have k9 := y_ner (n := 0) rfl c8
    refine (s_X1_knows w_m1).to ?_
    rintro _ m3 ⟨w_m3, g10, v4, rfl, p11, p12⟩
    have f_m3 : Fx (RS [2, 9, 10, 12, 14]) m m3 := f_m1.tr g10 (RS_sub rfl)
    refine ⟨v4, rfl, ?_⟩
    refine ⟨?_, ?_⟩
    · intro c13
      have k14 := y_eqr (n := 0) rfl c13
      exact ⟨w_m3, f_m3, _, rfl⟩
    · intro c15
      have k16 := y_ner (n := 0) rfl c15
      obtain ⟨r5, e17, q18⟩ := w_m3.r09
      refine ⟨r5, e17, Pl_of q18, ?_⟩
      refine ⟨?_, ?_⟩
      · intro c19
        have r20 := w_m3.pl (k := 5) q18 rfl rfl
        have k21 := y_ner (n := 0) rfl c19
        refine ⟨r5, e17, Pl_of q18, ?_⟩
        refine (s_X7_findLoop w_m3 q18).to ?_
        rintro _ m7 ⟨w_m7, g22, v8, rfl, p23, p24⟩
        have f_m7 : Fx (RS [2, 9, 10, 12, 14]) m m7 := f_m3.tr g22 (RS_sub rfl)
        refine ⟨v8, rfl, ?_⟩
        refine ⟨?_, ?_⟩
        · intro c25
          have k26 := y_ner (n := 0) rfl c25
          refine (s_X7_loopSum w_m7).to ?_
          rintro _ m9 ⟨w_m9, g27, v10, rfl⟩
          have f_m9 : Fx (RS [2, 9, 10, 12, 14]) m m9 := f_m7.tr g27 (RS_sub rfl)
          refine ⟨v10, rfl, ?_⟩
          refine (s_X11_tellFraction w_m9).to ?_
          rintro _ m11 ⟨w_m11, g28, rfl⟩
          have f_m11 : Fx (RS [2, 9, 10, 12, 14]) m m11 := f_m9.tr g28 (RS_sub rfl)
          refine ⟨rfl, ?_⟩
          exact ⟨w_m11, f_m11, _, rfl⟩
        · intro c29
          have k30 := y_eqr (n := 0) rfl c29
          exact ⟨w_m7, f_m7, _, rfl⟩
      · intro c31
        have r32 := w_m3.pl (k := 5) q18 rfl rfl
        have k33 := y_eqr (n := 0) rfl c31
        exact ⟨w_m3, f_m3, _, rfl⟩
set_option maxHeartbeats 4000000 in
theorem s_X11_soon {ad : Nat → Nat} {d : Nat} {m : Wm} {x1 x2 x3 : Int32} (w : WT m) : Ct ad μX11_soon (d + 7) [.ref (ad 0), .int x1, .int x2, .int x3] m (fun r m' => WT m' ∧ Fx (RS [2, 10, 12, 14]) m m' ∧ ∃ v : Int32, r = some (.int v)) := by
  have f : Fx (RS [2, 10, 12, 14]) m m := Fx.rf
  refine v_X11_soon  ?_
  refine (s_X1_has w).to ?_
  rintro _ m1 ⟨w_m1, g1, v2, rfl, p3, p4, p2⟩
  have f_m1 : Fx (RS [2, 10, 12, 14]) m m1 := f.tr g1 (RS_sub rfl)
  have p5 : (v2.toInt = 0 ∧ ((x1).toInt < 0 ∨ ((m.1 3 3)).toInt ≤ (x1).toInt)) ∨ (v2.toInt = 1 ∧ 0 ≤ (x1).toInt ∧ (x1).toInt < ((m.1 3 3)).toInt ∧ (x1).toInt ≤ 7) := p2
  clear p2
  refine ⟨v2, rfl, ?_⟩
  refine ⟨?_, ?_⟩
  · intro c6
    have k7 := y_eqr (n := 0) rfl c6
    exact ⟨w_m1, f_m1, _, rfl⟩
  · intro c8
    have k9 := y_ner (n := 0) rfl c8
    refine (s_X1_knows w_m1).to ?_
    rintro _ m3 ⟨w_m3, g10, v4, rfl, p11, p12⟩
    have f_m3 : Fx (RS [2, 10, 12, 14]) m m3 := f_m1.tr g10 (RS_sub rfl)
    refine ⟨v4, rfl, ?_⟩
    refine ⟨?_, ?_⟩
    · intro c13
      have k14 := y_eqr (n := 0) rfl c13
      exact ⟨w_m3, f_m3, _, rfl⟩
    · intro c15
      have k16 := y_ner (n := 0) rfl c15
      refine ⟨?_, ?_⟩
      · intro c17
        have k18 := y_ltr (n := 0) rfl c17
        exact ⟨w_m3, f_m3, _, rfl⟩
      · intro c19
        have k20 := y_nltr (n := 0) rfl c19
        refine ⟨?_, ?_⟩
        · intro c21
          have k22 := y_ltl (n := 7) rfl c21
          exact ⟨w_m3, f_m3, _, rfl⟩
        · intro c23
          have k24 := y_nltl (n := 7) rfl c23
          obtain ⟨r5, e25, q26⟩ := w_m3.r09
          refine ⟨r5, e25, Pl_of q26, ?_⟩
          refine ⟨?_, ?_⟩
          · intro c27
            have r28 := w_m3.pl (k := 5) q26 rfl rfl
            have k29 := y_ner (n := 0) rfl c27
            refine ⟨r5, e25, Pl_of q26, ?_⟩
            refine (s_X7_findLoop w_m3 q26).to ?_
            rintro _ m7 ⟨w_m7, g30, v8, rfl, p31, p32⟩
            have f_m7 : Fx (RS [2, 10, 12, 14]) m m7 := f_m3.tr g30 (RS_sub rfl)
            refine ⟨v8, rfl, ?_⟩
            refine (s_X9_firstWith w_m7).to ?_
            rintro _ m9 ⟨w_m9, g33, v10, rfl, p34, p35⟩
            have f_m9 : Fx (RS [2, 10, 12, 14]) m m9 := f_m7.tr g33 (RS_sub rfl)
            refine ⟨v10, rfl, ?_⟩
            refine ⟨?_, ?_⟩
            · intro c36
              have k37 := y_ltr (n := 0) rfl c36
              refine ⟨?_, ?_⟩
              · intro c38
                have k39 := y_eqr (n := 0) rfl c38
                exact ⟨w_m9, f_m9, _, rfl⟩
              · intro c40
                have k41 := y_ner (n := 0) rfl c40
                exact ⟨w_m9, f_m9, _, rfl⟩
            · intro c42
              have k43 := y_nltr (n := 0) rfl c42
              exact ⟨w_m9, f_m9, _, rfl⟩
          · intro c44
            have r45 := w_m3.pl (k := 5) q26 rfl rfl
            have k46 := y_eqr (n := 0) rfl c44
            exact ⟨w_m3, f_m3, _, rfl⟩
set_option maxHeartbeats 4000000 in
theorem l_X11_wins {ad : Nat → Nat} {d : Nat} {m0 : Wm}  : ∀ n : Nat, (∀ (m : Wm) (x1 x2 x3 x6 : Int32) (y4 : Int64), WT m → Fx (RS [2, 9, 12, 14]) m0 m → (0 : Int) ≤ x1.toInt → x1.toInt ≤ (7 : Int) → (1 : Int) ≤ x2.toInt → x2.toInt ≤ (6 : Int) → (0 : Int) ≤ x6.toInt → x6.toInt ≤ (64 : Int) → 64 - x6.toInt < (n : Int) → AW ad E0 μX11_wins (d + 7) (fun r m' => WT m' ∧ Fx (RS [2, 9, 12, 14]) m0 m' ∧ ∃ v : Int32, r = some (.int v)) 49 [(0, .ref (ad 0)), (1, .int x1), (2, .int x2), (3, .int x3), (4, .long y4), (6, .int x6)] [] m) := by
  intro n
  induction n with
  | zero =>
    intros
    exfalso
    omega
  | succ n ih =>
    intro m x1 x2 x3 x6 y4 w f j1 j2 j3 j4 j5 j6 hn
    refine g_X11_wins_49  ?_
    refine ⟨?_, ?_⟩
    · intro c1
      have t2 := t_shl1 (x := x2) (by omega) (by omega)
      have k3 := z_le c1
      refine (s_X11_allChances w (by show (0 : Int) ≤ (x2).toInt; omega) (by show (x2).toInt ≤ (6 : Int); omega)).to ?_
      rintro _ m1 ⟨w_m1, g4, w2, rfl⟩
      have f_m1 : Fx (RS [2, 9, 12, 14]) m0 m1 := f.tr g4 (RS_sub rfl)
      refine ⟨w2, rfl, ?_⟩
      refine (s_X11_tellFraction w_m1).to ?_
      rintro _ m3 ⟨w_m3, g5, rfl⟩
      have f_m3 : Fx (RS [2, 9, 12, 14]) m0 m3 := f_m1.tr g5 (RS_sub rfl)
      refine ⟨rfl, ?_⟩
      exact ⟨w_m3, f_m3, _, rfl⟩
    · intro c6
      have t7 := t_shl1 (x := x2) (by omega) (by omega)
      have k8 := z_nle c6
      obtain ⟨r4, e9, q10⟩ := w.r09
      refine ⟨r4, e9, Pl_of q10, ?_⟩
      refine (s_X7_follow w q10 (by show (0 : Int) ≤ (x2).toInt; omega) (by show (x2).toInt ≤ (6 : Int); omega)).to ?_
      rintro _ m5 ⟨w_m5, g11, w6, rfl⟩
      have f_m5 : Fx (RS [2, 9, 12, 14]) m0 m5 := f.tr g11 (RS_sub rfl)
      refine ⟨w6, rfl, ?_⟩
      refine ⟨?_, ?_⟩
      · intro c12
        have t13 := ti_addc (x := x6) (y := (1 : Int32)) (c := 1) rfl (by omega)
        exact ih _ _ _ _ _ _ w_m5 f_m5 (by show (0 : Int) ≤ (x1).toInt; omega) (by show (x1).toInt ≤ (7 : Int); omega) (by show (1 : Int) ≤ (x2).toInt; omega) (by show (x2).toInt ≤ (6 : Int); omega) (by show (0 : Int) ≤ ((x6 + (1 : Int32))).toInt; omega) (by show ((x6 + (1 : Int32))).toInt ≤ (64 : Int); omega) (by show 64 - ((x6 + (1 : Int32))).toInt < _; omega)
      · intro c14
        refine ⟨?_, ?_⟩
        · exact vpi (by omega) (by omega)
        · refine ⟨?_, ?_⟩
          · intro c15
            have k16 := z_ne c15
            have t17 := ti_addc (x := x6) (y := (1 : Int32)) (c := 1) rfl (by omega)
            exact ih _ _ _ _ _ _ w_m5 f_m5 (by show (0 : Int) ≤ (x1).toInt; omega) (by show (x1).toInt ≤ (7 : Int); omega) (by show (1 : Int) ≤ (x2).toInt; omega) (by show (x2).toInt ≤ (6 : Int); omega) (by show (0 : Int) ≤ ((x6 + (1 : Int32))).toInt; omega) (by show ((x6 + (1 : Int32))).toInt ≤ (64 : Int); omega) (by show 64 - ((x6 + (1 : Int32))).toInt < _; omega)
          · intro c18
            have k19 := z_eq c18
            have t20 := ti_addc (x := x6) (y := (1 : Int32)) (c := 1) rfl (by omega)
            exact ih _ _ _ _ _ _ w_m5 f_m5 (by show (0 : Int) ≤ (x1).toInt; omega) (by show (x1).toInt ≤ (7 : Int); omega) (by show (1 : Int) ≤ (x2).toInt; omega) (by show (x2).toInt ≤ (6 : Int); omega) (by show (0 : Int) ≤ ((x6 + (1 : Int32))).toInt; omega) (by show ((x6 + (1 : Int32))).toInt ≤ (64 : Int); omega) (by show 64 - ((x6 + (1 : Int32))).toInt < _; omega)
set_option maxHeartbeats 4000000 in
theorem s_X11_wins {ad : Nat → Nat} {d : Nat} {m : Wm} {x1 x2 x3 : Int32} (w : WT m) : Ct ad μX11_wins (d + 7) [.ref (ad 0), .int x1, .int x2, .int x3] m (fun r m' => WT m' ∧ Fx (RS [2, 9, 12, 14]) m m' ∧ ∃ v : Int32, r = some (.int v)) := by
  have f : Fx (RS [2, 9, 12, 14]) m m := Fx.rf
  refine v_X11_wins  ?_
  refine (s_X1_has w).to ?_
  rintro _ m1 ⟨w_m1, g1, v2, rfl, p3, p4, p2⟩
  have f_m1 : Fx (RS [2, 9, 12, 14]) m m1 := f.tr g1 (RS_sub rfl)
  have p5 : (v2.toInt = 0 ∧ ((x1).toInt < 0 ∨ ((m.1 3 3)).toInt ≤ (x1).toInt)) ∨ (v2.toInt = 1 ∧ 0 ≤ (x1).toInt ∧ (x1).toInt < ((m.1 3 3)).toInt ∧ (x1).toInt ≤ 7) := p2
  clear p2
  refine ⟨v2, rfl, ?_⟩
  refine ⟨?_, ?_⟩
  · intro c6
    have k7 := y_eqr (n := 0) rfl c6
    exact ⟨w_m1, f_m1, _, rfl⟩
  · intro c8
    have k9 := y_ner (n := 0) rfl c8
    refine ⟨?_, ?_⟩
    · intro c10
      have k11 := y_ltr (n := 1) rfl c10
      exact ⟨w_m1, f_m1, _, rfl⟩
    · intro c12
      have k13 := y_nltr (n := 1) rfl c12
      refine ⟨?_, ?_⟩
      · intro c14
        have k15 := y_ltl (n := 6) rfl c14
        exact ⟨w_m1, f_m1, _, rfl⟩
      · intro c16
        have k17 := y_nltl (n := 6) rfl c16
        refine ⟨?_, ?_⟩
        · intro c18
          have k19 := y_ltr (n := 0) rfl c18
          exact ⟨w_m1, f_m1, _, rfl⟩
        · intro c20
          have k21 := y_nltr (n := 0) rfl c20
          refine ⟨?_, ?_⟩
          · intro c22
            have k23 := z_lt c22
            exact ⟨w_m1, f_m1, _, rfl⟩
          · intro c24
            have k25 := z_nlt c24
            obtain ⟨r3, e26, q27⟩ := w_m1.r09
            refine ⟨r3, e26, Pl_of q27, ?_⟩
            refine ⟨?_, ?_⟩
            · intro c28
              have r29 := w_m1.pl (k := 5) q27 rfl rfl
              have k30 := y_ner (n := 0) rfl c28
              exact (l_X11_wins (m0 := m) 1000000) _ _ _ _ _ _ w_m1 f_m1 (by show (0 : Int) ≤ (x1).toInt; omega) (by show (x1).toInt ≤ (7 : Int); omega) (by show (1 : Int) ≤ (x2).toInt; omega) (by show (x2).toInt ≤ (6 : Int); omega) (by show (0 : Int) ≤ (0 : Int); omega) (by show (0 : Int) ≤ (64 : Int); omega) (by show 64 - (0 : Int) < _; omega)
            · intro c31
              have r32 := w_m1.pl (k := 5) q27 rfl rfl
              have k33 := y_eqr (n := 0) rfl c31
              exact ⟨w_m1, f_m1, _, rfl⟩
set_option maxHeartbeats 4000000 in
theorem l_X11_hopes {ad : Nat → Nat} {d : Nat} {m0 : Wm}  : ∀ n : Nat, (∀ (m : Wm) (x1 x4 x5 x6 : Int32) (y2 : Int64), WT m → Fx (RS [2, 9, 12, 14]) m0 m → (1 : Int) ≤ x1.toInt → x1.toInt ≤ (6 : Int) → (0 : Int) ≤ x6.toInt → x6.toInt ≤ (64 : Int) → 64 - x6.toInt < (n : Int) → AW ad E0 μX11_hopes (d + 7) (fun r m' => WT m' ∧ Fx (RS [2, 9, 12, 14]) m0 m' ∧ ∃ v : Int32, r = some (.int v)) 36 [(0, .ref (ad 0)), (1, .int x1), (2, .long y2), (4, .int x4), (5, .int x5), (6, .int x6)] [] m) := by
  intro n
  induction n with
  | zero =>
    intros
    exfalso
    omega
  | succ n ih =>
    intro m x1 x4 x5 x6 y2 w f j1 j2 j3 j4 hn
    refine g_X11_hopes_36  ?_
    refine ⟨?_, ?_⟩
    · intro c1
      have t2 := t_shl1 (x := x1) (by omega) (by omega)
      have k3 := z_le c1
      refine (s_X11_allChances w (by show (0 : Int) ≤ (x1).toInt; omega) (by show (x1).toInt ≤ (6 : Int); omega)).to ?_
      rintro _ m1 ⟨w_m1, g4, w2, rfl⟩
      have f_m1 : Fx (RS [2, 9, 12, 14]) m0 m1 := f.tr g4 (RS_sub rfl)
      refine ⟨w2, rfl, ?_⟩
      refine (s_X11_tellFraction w_m1).to ?_
      rintro _ m3 ⟨w_m3, g5, rfl⟩
      have f_m3 : Fx (RS [2, 9, 12, 14]) m0 m3 := f_m1.tr g5 (RS_sub rfl)
      refine ⟨rfl, ?_⟩
      have w6 : WT (uL m3 150 ((2 : Int32).toNatClampNeg) x4.toInt64) := w_m3.l
      have f6 : Fx (RS [2, 9, 12, 14]) m0 (uL m3 150 ((2 : Int32).toNatClampNeg) x4.toInt64) := f_m3.l rfl
      have w7 : WT (uL (uL m3 150 ((2 : Int32).toNatClampNeg) x4.toInt64) 150 ((3 : Int32).toNatClampNeg) x5.toInt64) := w6.l
      have f7 : Fx (RS [2, 9, 12, 14]) m0 (uL (uL m3 150 ((2 : Int32).toNatClampNeg) x4.toInt64) 150 ((3 : Int32).toNatClampNeg) x5.toInt64) := f6.l rfl
      have w8 : WT (uI (uL (uL m3 150 ((2 : Int32).toNatClampNeg) x4.toInt64) 150 ((3 : Int32).toNatClampNeg) x5.toInt64) 0 18 (4 : Int32)) := w7.t rfl (by show (0 : Int) ≤ (4 : Int); omega) (by show (4 : Int) ≤ 10; omega)
      have f8 : Fx (RS [2, 9, 12, 14]) m0 (uI (uL (uL m3 150 ((2 : Int32).toNatClampNeg) x4.toInt64) 150 ((3 : Int32).toNatClampNeg) x5.toInt64) 0 18 (4 : Int32)) := f7.i rfl
      exact ⟨w8, f8, _, rfl⟩
    · intro c9
      have t10 := t_shl1 (x := x1) (by omega) (by omega)
      have k11 := z_nle c9
      obtain ⟨r4, e12, q13⟩ := w.r09
      refine ⟨r4, e12, Pl_of q13, ?_⟩
      refine (s_X7_follow w q13 (by show (0 : Int) ≤ (x1).toInt; omega) (by show (x1).toInt ≤ (6 : Int); omega)).to ?_
      rintro _ m5 ⟨w_m5, g14, w6, rfl⟩
      have f_m5 : Fx (RS [2, 9, 12, 14]) m0 m5 := f.tr g14 (RS_sub rfl)
      refine ⟨w6, rfl, ?_⟩
      refine ⟨?_, ?_⟩
      · intro c15
        have t16 := ti_addc (x := x6) (y := (1 : Int32)) (c := 1) rfl (by omega)
        exact ih _ _ _ _ _ _ w_m5 f_m5 (by show (1 : Int) ≤ (x1).toInt; omega) (by show (x1).toInt ≤ (6 : Int); omega) (by show (0 : Int) ≤ ((x6 + (1 : Int32))).toInt; omega) (by show ((x6 + (1 : Int32))).toInt ≤ (64 : Int); omega) (by show 64 - ((x6 + (1 : Int32))).toInt < _; omega)
      · intro c17
        refine (s_X1_total w_m5 SS_167).to ?_
        rintro _ m7 ⟨w_m7, g18, v8, rfl⟩
        have f_m7 : Fx (RS [2, 9, 12, 14]) m0 m7 := f_m5.tr g18 (RS_sub rfl)
        refine ⟨v8, rfl, ?_⟩
        have t19 := ti_addc (x := x6) (y := (1 : Int32)) (c := 1) rfl (by omega)
        exact ih _ _ _ _ _ _ w_m7 f_m7 (by show (1 : Int) ≤ (x1).toInt; omega) (by show (x1).toInt ≤ (6 : Int); omega) (by show (0 : Int) ≤ ((x6 + (1 : Int32))).toInt; omega) (by show ((x6 + (1 : Int32))).toInt ≤ (64 : Int); omega) (by show 64 - ((x6 + (1 : Int32))).toInt < _; omega)
set_option maxHeartbeats 4000000 in
theorem s_X11_hopes {ad : Nat → Nat} {d : Nat} {m : Wm} {x1 : Int32} (w : WT m) : Ct ad μX11_hopes (d + 7) [.ref (ad 0), .int x1] m (fun r m' => WT m' ∧ Fx (RS [2, 9, 12, 14]) m m' ∧ ∃ v : Int32, r = some (.int v)) := by
  have f : Fx (RS [2, 9, 12, 14]) m m := Fx.rf
  refine v_X11_hopes  ?_
  refine ⟨?_, ?_⟩
  · intro c1
    have k2 := y_ltr (n := 1) rfl c1
    exact ⟨w, f, _, rfl⟩
  · intro c3
    have k4 := y_nltr (n := 1) rfl c3
    refine ⟨?_, ?_⟩
    · intro c5
      have k6 := y_ltl (n := 6) rfl c5
      exact ⟨w, f, _, rfl⟩
    · intro c7
      have k8 := y_nltl (n := 6) rfl c7
      obtain ⟨r1, e9, q10⟩ := w.r09
      refine ⟨r1, e9, Pl_of q10, ?_⟩
      refine ⟨?_, ?_⟩
      · intro c11
        have r12 := w.pl (k := 5) q10 rfl rfl
        have k13 := y_ner (n := 0) rfl c11
        exact (l_X11_hopes (m0 := m) 1000000) _ _ _ _ _ _ w f (by show (1 : Int) ≤ (x1).toInt; omega) (by show (x1).toInt ≤ (6 : Int); omega) (by show (0 : Int) ≤ (0 : Int); omega) (by show (0 : Int) ≤ (64 : Int); omega) (by show 64 - (0 : Int) < _; omega)
      · intro c14
        have r15 := w.pl (k := 5) q10 rfl rfl
        have k16 := y_eqr (n := 0) rfl c14
        exact ⟨w, f, _, rfl⟩
set_option maxHeartbeats 4000000 in
theorem s_X11_tellWayTo {ad : Nat → Nat} {d : Nat} {m : Wm} {x1 : Int32} (w : WT m) (i1 : (-1 : Int) ≤ x1.toInt) (i2 : x1.toInt ≤ (2999 : Int)) : Ct ad μX11_tellWayTo (d + 1) [.ref (ad 0), .int x1] m (fun r m' => WT m' ∧ Fx (RS [9]) m m' ∧ ∃ v : Int32, r = some (.int v)) := by
  have f : Fx (RS [9]) m m := Fx.rf
  refine v_X11_tellWayTo  ?_
  refine ⟨?_, ?_⟩
  · intro c1
    have k2 := y_lel (n := 0) rfl c1
    refine (s_X6_fillWay w (by show (0 : Int) ≤ (x1).toInt; omega) (by show (x1).toInt ≤ (2999 : Int); omega)).to ?_
    rintro _ m1 ⟨w_m1, g3, rfl⟩
    have f_m1 : Fx (RS [9]) m m1 := f.tr g3 (RS_sub rfl)
    refine ⟨rfl, ?_⟩
    refine ⟨?_, ?_⟩
    · exact vpi (by omega) (by omega)
    · refine ⟨?_, ?_⟩
      · exact vpi (by omega) (by omega)
      · have r5 := w_m1.at (a := 165) (k := x1.toNatClampNeg) rfl
        have t6 := tn (x := x1) (by omega)
        have t7 := ti_ltv (a := (10 : Int32)) (b := (m1.1 165 x1.toNatClampNeg)) (c := (10 : Int32)) (d := (m1.1 165 x1.toNatClampNeg)) (A := (10)) (B := (m1.1 165 x1.toNatClampNeg).toInt) (C := (10)) (D := (m1.1 165 x1.toNatClampNeg).toInt) rfl rfl rfl rfl
        have w4 : WT (uI m1 0 18 (if (10 : Int32) < (m1.1 165 x1.toNatClampNeg) then (10 : Int32) else (m1.1 165 x1.toNatClampNeg))) := w_m1.t rfl (by show (0 : Int) ≤ ((if (10 : Int32) < (m1.1 165 x1.toNatClampNeg) then (10 : Int32) else (m1.1 165 x1.toNatClampNeg))).toInt; omega) (by show ((if (10 : Int32) < (m1.1 165 x1.toNatClampNeg) then (10 : Int32) else (m1.1 165 x1.toNatClampNeg))).toInt ≤ 10; omega)
        have f4 : Fx (RS [9]) m (uI m1 0 18 (if (10 : Int32) < (m1.1 165 x1.toNatClampNeg) then (10 : Int32) else (m1.1 165 x1.toNatClampNeg))) := f_m1.i rfl
        exact ⟨w4, f4, _, rfl⟩
  · intro c8
    have k9 := y_nlel (n := 0) rfl c8
    exact ⟨w, f, _, rfl⟩
set_option maxHeartbeats 4000000 in
theorem s_X11_top {ad : Nat → Nat} {d : Nat} {m : Wm} {x1 x2 x3 : Int32} (w : WT m) : Ct ad μX11_top (d + 7) [.ref (ad 0), .int x1, .int x2, .int x3] m (fun r m' => WT m' ∧ Fx (RS [2, 9, 10, 11, 14]) m m' ∧ ∃ v : Int32, r = some (.int v)) := by
  have f : Fx (RS [2, 9, 10, 11, 14]) m m := Fx.rf
  refine v_X11_top  ?_
  refine (s_X1_has w).to ?_
  rintro _ m1 ⟨w_m1, g1, v2, rfl, p3, p4, p2⟩
  have f_m1 : Fx (RS [2, 9, 10, 11, 14]) m m1 := f.tr g1 (RS_sub rfl)
  have p5 : (v2.toInt = 0 ∧ ((x1).toInt < 0 ∨ ((m.1 3 3)).toInt ≤ (x1).toInt)) ∨ (v2.toInt = 1 ∧ 0 ≤ (x1).toInt ∧ (x1).toInt < ((m.1 3 3)).toInt ∧ (x1).toInt ≤ 7) := p2
  clear p2
  refine ⟨v2, rfl, ?_⟩
  refine ⟨?_, ?_⟩
  · intro c6
    have k7 := y_eqr (n := 0) rfl c6
    exact ⟨w_m1, f_m1, _, rfl⟩
  · intro c8
    have k9 := y_ner (n := 0) rfl c8
    refine (s_X1_knows w_m1).to ?_
    rintro _ m3 ⟨w_m3, g10, v4, rfl, p11, p12⟩
    have f_m3 : Fx (RS [2, 9, 10, 11, 14]) m m3 := f_m1.tr g10 (RS_sub rfl)
    refine ⟨v4, rfl, ?_⟩
    refine ⟨?_, ?_⟩
    · intro c13
      have k14 := y_eqr (n := 0) rfl c13
      exact ⟨w_m3, f_m3, _, rfl⟩
    · intro c15
      have k16 := y_ner (n := 0) rfl c15
      refine ⟨?_, ?_⟩
      · intro c17
        have k18 := y_ltr (n := 0) rfl c17
        exact ⟨w_m3, f_m3, _, rfl⟩
      · intro c19
        have k20 := y_nltr (n := 0) rfl c19
        refine ⟨?_, ?_⟩
        · intro c21
          have k22 := y_ler (n := 7) rfl c21
          refine (s_X6_explore w_m3).to ?_
          rintro _ m5 ⟨w_m5, g23, v6, rfl, p24, p25⟩
          have f_m5 : Fx (RS [2, 9, 10, 11, 14]) m m5 := f_m3.tr g23 (RS_sub rfl)
          refine ⟨v6, rfl, ?_⟩
          refine ⟨?_, ?_⟩
          · intro c26
            have k27 := y_ner (n := 0) rfl c26
            refine (s_X9_firstWith w_m5).to ?_
            rintro _ m7 ⟨w_m7, g28, v8, rfl, p29, p30⟩
            have f_m7 : Fx (RS [2, 9, 10, 11, 14]) m m7 := f_m5.tr g28 (RS_sub rfl)
            refine ⟨v8, rfl, ?_⟩
            refine (s_X11_tellWayTo w_m7 (by show (-1 : Int) ≤ (v8).toInt; omega) (by show (v8).toInt ≤ (2999 : Int); omega)).to ?_
            rintro _ m9 ⟨w_m9, g31, v10, rfl⟩
            have f_m9 : Fx (RS [2, 9, 10, 11, 14]) m m9 := f_m7.tr g31 (RS_sub rfl)
            refine ⟨v10, rfl, ?_⟩
            exact ⟨w_m9, f_m9, _, rfl⟩
          · intro c32
            have k33 := y_eqr (n := 0) rfl c32
            exact ⟨w_m5, f_m5, _, rfl⟩
        · intro c34
          have k35 := y_nler (n := 7) rfl c34
          exact ⟨w_m3, f_m3, _, rfl⟩
set_option maxHeartbeats 4000000 in
theorem s_X11_quick {ad : Nat → Nat} {d : Nat} {m : Wm} {x1 : Int32} (w : WT m) : Ct ad μX11_quick (d + 7) [.ref (ad 0), .int x1] m (fun r m' => WT m' ∧ Fx (RS [2, 9, 10, 11, 14]) m m' ∧ ∃ v : Int32, r = some (.int v)) := by
  have f : Fx (RS [2, 9, 10, 11, 14]) m m := Fx.rf
  refine v_X11_quick  ?_
  refine (s_X6_explore w).to ?_
  rintro _ m1 ⟨w_m1, g1, v2, rfl, p2, p3⟩
  have f_m1 : Fx (RS [2, 9, 10, 11, 14]) m m1 := f.tr g1 (RS_sub rfl)
  refine ⟨v2, rfl, ?_⟩
  refine ⟨?_, ?_⟩
  · intro c4
    have k5 := y_ner (n := 0) rfl c4
    refine (s_X6_firstStrong w_m1).to ?_
    rintro _ m3 ⟨w_m3, g6, v4, rfl, p7, p8⟩
    have f_m3 : Fx (RS [2, 9, 10, 11, 14]) m m3 := f_m1.tr g6 (RS_sub rfl)
    refine ⟨v4, rfl, ?_⟩
    refine (s_X11_tellWayTo w_m3 (by show (-1 : Int) ≤ (v4).toInt; omega) (by show (v4).toInt ≤ (2999 : Int); omega)).to ?_
    rintro _ m5 ⟨w_m5, g9, v6, rfl⟩
    have f_m5 : Fx (RS [2, 9, 10, 11, 14]) m m5 := f_m3.tr g9 (RS_sub rfl)
    refine ⟨v6, rfl, ?_⟩
    exact ⟨w_m5, f_m5, _, rfl⟩
  · intro c10
    have k11 := y_eqr (n := 0) rfl c10
    exact ⟨w_m1, f_m1, _, rfl⟩
set_option maxHeartbeats 4000000 in
theorem s_X11_best {ad : Nat → Nat} {d : Nat} {m : Wm} {x1 x2 : Int32} (w : WT m) : Ct ad μX11_best (d + 7) [.ref (ad 0), .int x1, .int x2] m (fun r m' => WT m' ∧ Fx (RS [2, 9, 10, 11, 14]) m m' ∧ ∃ v : Int32, r = some (.int v)) := by
  have f : Fx (RS [2, 9, 10, 11, 14]) m m := Fx.rf
  refine v_X11_best  ?_
  refine (s_X1_has w).to ?_
  rintro _ m1 ⟨w_m1, g1, v2, rfl, p3, p4, p2⟩
  have f_m1 : Fx (RS [2, 9, 10, 11, 14]) m m1 := f.tr g1 (RS_sub rfl)
  have p5 : (v2.toInt = 0 ∧ ((x1).toInt < 0 ∨ ((m.1 3 3)).toInt ≤ (x1).toInt)) ∨ (v2.toInt = 1 ∧ 0 ≤ (x1).toInt ∧ (x1).toInt < ((m.1 3 3)).toInt ∧ (x1).toInt ≤ 7) := p2
  clear p2
  refine ⟨v2, rfl, ?_⟩
  refine ⟨?_, ?_⟩
  · intro c6
    have k7 := y_eqr (n := 0) rfl c6
    exact ⟨w_m1, f_m1, _, rfl⟩
  · intro c8
    have k9 := y_ner (n := 0) rfl c8
    refine ⟨?_, ?_⟩
    · intro c10
      have k11 := y_ltr (n := 0) rfl c10
      exact ⟨w_m1, f_m1, _, rfl⟩
    · intro c12
      have k13 := y_nltr (n := 0) rfl c12
      refine ⟨?_, ?_⟩
      · intro c14
        have k15 := y_ler (n := 9) rfl c14
        refine (s_X6_explore w_m1).to ?_
        rintro _ m3 ⟨w_m3, g16, v4, rfl, p17, p18⟩
        have f_m3 : Fx (RS [2, 9, 10, 11, 14]) m m3 := f_m1.tr g16 (RS_sub rfl)
        refine ⟨v4, rfl, ?_⟩
        refine ⟨?_, ?_⟩
        · intro c19
          have k20 := y_ner (n := 0) rfl c19
          refine (s_X6_greatestPower w_m3 (by show (0 : Int) ≤ (x1).toInt; omega) (by show (x1).toInt ≤ (7 : Int); omega)).to ?_
          rintro _ m5 ⟨w_m5, g21, v6, rfl⟩
          have f_m5 : Fx (RS [2, 9, 10, 11, 14]) m m5 := f_m3.tr g21 (RS_sub rfl)
          refine ⟨v6, rfl, ?_⟩
          refine ⟨?_, ?_⟩
          · have r22 := w_m5.at (a := 156) (k := 6) rfl
            exact vpi (by omega) (by omega)
          · refine (s_X11_tell w_m5).to ?_
            rintro _ m7 ⟨w_m7, g23, rfl⟩
            have f_m7 : Fx (RS [2, 9, 10, 11, 14]) m m7 := f_m5.tr g23 (RS_sub rfl)
            refine ⟨rfl, ?_⟩
            exact ⟨w_m7, f_m7, _, rfl⟩
        · intro c24
          have k25 := y_eqr (n := 0) rfl c24
          exact ⟨w_m3, f_m3, _, rfl⟩
      · intro c26
        have k27 := y_nler (n := 9) rfl c26
        exact ⟨w_m1, f_m1, _, rfl⟩
set_option maxHeartbeats 4000000 in
theorem s_X11_even {ad : Nat → Nat} {d : Nat} {m : Wm} {x1 : Int32} (w : WT m) : Ct ad μX11_even (d + 7) [.ref (ad 0), .int x1] m (fun r m' => WT m' ∧ Fx (RS [2, 9, 10, 11, 14]) m m' ∧ ∃ v : Int32, r = some (.int v)) := by
  have f : Fx (RS [2, 9, 10, 11, 14]) m m := Fx.rf
  refine v_X11_even  ?_
  refine ⟨?_, ?_⟩
  · intro c1
    have k2 := y_ltr (n := 0) rfl c1
    exact ⟨w, f, _, rfl⟩
  · intro c3
    have k4 := y_nltr (n := 0) rfl c3
    refine ⟨?_, ?_⟩
    · intro c5
      have k6 := y_ltl (n := 9) rfl c5
      exact ⟨w, f, _, rfl⟩
    · intro c7
      have k8 := y_nltl (n := 9) rfl c7
      refine ⟨?_, ?_⟩
      · intro c9
        have r10 := w.at (a := 3) (k := 3) rfl
        have k11 := y_ner (n := 0) rfl c9
        refine (s_X6_explore w).to ?_
        rintro _ m1 ⟨w_m1, g12, v2, rfl, p13, p14⟩
        have f_m1 : Fx (RS [2, 9, 10, 11, 14]) m m1 := f.tr g12 (RS_sub rfl)
        refine ⟨v2, rfl, ?_⟩
        refine ⟨?_, ?_⟩
        · intro c15
          have k16 := y_ner (n := 0) rfl c15
          refine (s_X6_leastGap w_m1).to ?_
          rintro _ m3 ⟨w_m3, g17, v4, rfl⟩
          have f_m3 : Fx (RS [2, 9, 10, 11, 14]) m m3 := f_m1.tr g17 (RS_sub rfl)
          refine ⟨v4, rfl, ?_⟩
          refine ⟨?_, ?_⟩
          · have r18 := w_m3.at (a := 156) (k := 6) rfl
            exact vpi (by omega) (by omega)
          · refine (s_X11_tell w_m3).to ?_
            rintro _ m5 ⟨w_m5, g19, rfl⟩
            have f_m5 : Fx (RS [2, 9, 10, 11, 14]) m m5 := f_m3.tr g19 (RS_sub rfl)
            refine ⟨rfl, ?_⟩
            exact ⟨w_m5, f_m5, _, rfl⟩
        · intro c20
          have k21 := y_eqr (n := 0) rfl c20
          exact ⟨w_m1, f_m1, _, rfl⟩
      · intro c22
        have r23 := w.at (a := 3) (k := 3) rfl
        have k24 := y_eqr (n := 0) rfl c22
        exact ⟨w, f, _, rfl⟩
set_option maxHeartbeats 4000000 in
theorem l_X11_all {ad : Nat → Nat} {d : Nat} {m0 : Wm}  : ∀ n : Nat, (∀ (m : Wm) (x1 x2 x3 x4 : Int32), WT m → Fx (RS [2, 9, 10, 11, 14]) m0 m → (0 : Int) ≤ x4.toInt → x4.toInt ≤ (3000 : Int) → 3000 - x4.toInt < (n : Int) → AW ad E0 μX11_all (d + 7) (fun r m' => WT m' ∧ Fx (RS [2, 9, 10, 11, 14]) m0 m' ∧ ∃ v : Int32, r = some (.int v)) 35 [(0, .ref (ad 0)), (1, .int x1), (2, .int x2), (3, .int x3), (4, .int x4)] [] m) := by
  intro n
  induction n with
  | zero =>
    intros
    exfalso
    omega
  | succ n ih =>
    intro m x1 x2 x3 x4 w f j1 j2 hn
    refine g_X11_all_35  ?_
    refine ⟨?_, ?_⟩
    · intro c1
      have r2 := w.at (a := 151) (k := 4) rfl
      have k3 := z_le c1
      refine (s_X11_tell__ w).to ?_
      rintro _ m1 ⟨w_m1, g4, rfl⟩
      have f_m1 : Fx (RS [2, 9, 10, 11, 14]) m0 m1 := f.tr g4 (RS_sub rfl)
      refine ⟨rfl, ?_⟩
      have r5 := w_m1.at (a := 151) (k := 4) rfl
      exact ⟨w_m1, f_m1, _, rfl⟩
    · intro c6
      have r7 := w.at (a := 151) (k := 4) rfl
      have k8 := z_nle c6
      refine (s_X9_total w (by show (0 : Int) ≤ (x4).toInt; omega) (by show (x4).toInt ≤ (2999 : Int); omega)).to ?_
      rintro _ m2 ⟨w_m2, g9, v3, rfl⟩
      have f_m2 : Fx (RS [2, 9, 10, 11, 14]) m0 m2 := f.tr g9 (RS_sub rfl)
      refine ⟨v3, rfl, ?_⟩
      refine ⟨?_, ?_⟩
      · exact vpi (by omega) (by omega)
      · have t10 := ti_addc (x := x4) (y := (1 : Int32)) (c := 1) rfl (by omega)
        exact ih _ _ _ _ _ w_m2 f_m2 (by show (0 : Int) ≤ ((x4 + (1 : Int32))).toInt; omega) (by show ((x4 + (1 : Int32))).toInt ≤ (3000 : Int); omega) (by show 3000 - ((x4 + (1 : Int32))).toInt < _; omega)
set_option maxHeartbeats 4000000 in
theorem s_X11_all {ad : Nat → Nat} {d : Nat} {m : Wm} (w : WT m) : Ct ad μX11_all (d + 7) [.ref (ad 0)] m (fun r m' => WT m' ∧ Fx (RS [2, 9, 10, 11, 14]) m m' ∧ ∃ v : Int32, r = some (.int v)) := by
  have f : Fx (RS [2, 9, 10, 11, 14]) m m := Fx.rf
  refine v_X11_all  ?_
  refine (s_X6_explore w).to ?_
  rintro _ m1 ⟨w_m1, g1, v2, rfl, p2, p3⟩
  have f_m1 : Fx (RS [2, 9, 10, 11, 14]) m m1 := f.tr g1 (RS_sub rfl)
  refine ⟨v2, rfl, ?_⟩
  refine ⟨?_, ?_⟩
  · intro c4
    have k5 := y_ner (n := 0) rfl c4
    exact (l_X11_all (m0 := m) 1000000) _ _ _ _ _ w_m1 f_m1 (by show (0 : Int) ≤ (0 : Int); omega) (by show (0 : Int) ≤ (3000 : Int); omega) (by show 3000 - (0 : Int) < _; omega)
  · intro c6
    have k7 := y_eqr (n := 0) rfl c6
    exact ⟨w_m1, f_m1, _, rfl⟩
set_option maxHeartbeats 4000000 in
theorem s_X11_powerAfter {ad : Nat → Nat} {d : Nat} {m : Wm} {x1 x2 x3 x4 : Int32} (w : WT m) (i1 : (0 : Int) ≤ x1.toInt) (i2 : x1.toInt ≤ (7 : Int)) (i3 : (0 : Int) ≤ x2.toInt) (i4 : x2.toInt ≤ (7 : Int)) (i5 : (0 : Int) ≤ x3.toInt) (i6 : x3.toInt ≤ (7 : Int)) : Ct ad μX11_powerAfter (d + 5) [.ref (ad 0), .int x1, .int x2, .int x3, .int x4] m (fun r m' => WT m' ∧ Fx (RS [2, 5, 14]) m m' ∧ ∃ v : Int32, r = some (.int v)) := by
  have f : Fx (RS [2, 5, 14]) m m := Fx.rf
  refine v_X11_powerAfter  ?_
  refine (s_X1_result w SS_26 (by show (0 : Int) ≤ (x2).toInt; omega) (by show (x2).toInt ≤ (7 : Int); omega) (by show (0 : Int) ≤ (x3).toInt; omega) (by show (x3).toInt ≤ (7 : Int); omega)).to ?_
  rintro _ m1 ⟨w_m1, g1, v2, rfl, p2, p3⟩
  have f_m1 : Fx (RS [2, 5, 14]) m m1 := f.tr g1 (RS_sub rfl)
  refine ⟨v2, rfl, ?_⟩
  refine (s_X1_settle w_m1 SS_26 (by show (0 : Int) ≤ (x2).toInt; omega) (by show (x2).toInt ≤ (7 : Int); omega) (by show (0 : Int) ≤ (x3).toInt; omega) (by show (x3).toInt ≤ (7 : Int); omega)).to ?_
  rintro _ m3 ⟨w_m3, g4, rfl⟩
  have f_m3 : Fx (RS [2, 5, 14]) m m3 := f_m1.tr g4 (RS_sub rfl)
  refine ⟨rfl, ?_⟩
  refine (s_X1_power w_m3 SS_26 (by show (0 : Int) ≤ (x1).toInt; omega) (by show (x1).toInt ≤ (7 : Int); omega)).to ?_
  rintro _ m4 ⟨w_m4, g5, v5, rfl⟩
  have f_m4 : Fx (RS [2, 5, 14]) m m4 := f_m3.tr g5 (RS_sub rfl)
  refine ⟨v5, rfl, ?_⟩
  refine (s_X8_copySkills w_m4 SS_26 SS_21).to ?_
  rintro _ m6 ⟨w_m6, g6, rfl⟩
  have f_m6 : Fx (RS [2, 5, 14]) m m6 := f_m4.tr g6 (RS_sub rfl)
  refine ⟨rfl, ?_⟩
  refine (s_X8_copySkills w_m6 SS_26 SS_21).to ?_
  rintro _ m7 ⟨w_m7, g7, rfl⟩
  have f_m7 : Fx (RS [2, 5, 14]) m m7 := f_m6.tr g7 (RS_sub rfl)
  refine ⟨rfl, ?_⟩
  exact ⟨w_m7, f_m7, _, rfl⟩
set_option maxHeartbeats 4000000 in
theorem l_X11_next {ad : Nat → Nat} {d : Nat} {m0 : Wm}  : ∀ n : Nat, (∀ (m : Wm) (x1 x2 x3 x4 : Int32), WT m → Fx (RS [2, 5, 9, 14]) m0 m → (0 : Int) ≤ x1.toInt → x1.toInt ≤ (7 : Int) → (0 : Int) ≤ x4.toInt → x4.toInt ≤ (3 : Int) → (3 - x4.toInt) * 1000 + 900 < (n : Int) → AW ad E0 μX11_next (d + 6) (fun r m' => WT m' ∧ Fx (RS [2, 5, 9, 14]) m0 m' ∧ ∃ v : Int32, r = some (.int v)) 45 [(0, .ref (ad 0)), (1, .int x1), (2, .int x2), (3, .int x3), (4, .int x4)] [] m) ∧ (∀ (m : Wm) (x1 x2 x3 x4 x5 : Int32), WT m → Fx (RS [2, 5, 9, 14]) m0 m → (0 : Int) ≤ x1.toInt → x1.toInt ≤ (7 : Int) → (0 : Int) ≤ x4.toInt → x4.toInt ≤ (2 : Int) → (0 : Int) ≤ x5.toInt → x5.toInt ≤ (8 : Int) → (3 - x4.toInt) * 1000 + (8 - x5.toInt) * 40 + 35 < (n : Int) → AW ad E0 μX11_next (d + 6) (fun r m' => WT m' ∧ Fx (RS [2, 5, 9, 14]) m0 m' ∧ ∃ v : Int32, r = some (.int v)) 54 [(0, .ref (ad 0)), (1, .int x1), (2, .int x2), (3, .int x3), (4, .int x4), (5, .int x5)] [] m) ∧ (∀ (m : Wm) (x1 x2 x3 x4 x5 x6 : Int32), WT m → Fx (RS [2, 5, 9, 14]) m0 m → (0 : Int) ≤ x1.toInt → x1.toInt ≤ (7 : Int) → (0 : Int) ≤ x4.toInt → x4.toInt ≤ (2 : Int) → (0 : Int) ≤ x5.toInt → x5.toInt ≤ (7 : Int) → (0 : Int) ≤ x6.toInt → x6.toInt ≤ (8 : Int) → (3 - x4.toInt) * 1000 + (8 - x5.toInt) * 40 + (8 - x6.toInt) * 2 + 1 < (n : Int) → AW ad E0 μX11_next (d + 6) (fun r m' => WT m' ∧ Fx (RS [2, 5, 9, 14]) m0 m' ∧ ∃ v : Int32, r = some (.int v)) 72 [(0, .ref (ad 0)), (1, .int x1), (2, .int x2), (3, .int x3), (4, .int x4), (5, .int x5), (6, .int x6)] [] m) ∧ (∀ (m : Wm) (x1 x4 x5 x6 x7 : Int32), WT m → Fx (RS [2, 5, 9, 14]) m0 m → (0 : Int) ≤ x1.toInt → x1.toInt ≤ (7 : Int) → (0 : Int) ≤ x4.toInt → x4.toInt ≤ (2 : Int) → (0 : Int) ≤ x5.toInt → x5.toInt ≤ (7 : Int) → (0 : Int) ≤ x6.toInt → x6.toInt ≤ (7 : Int) → (3 - x4.toInt) * 1000 + (8 - x5.toInt) * 40 + (8 - x6.toInt) * 2 < (n : Int) → AW ad E0 μX11_next (d + 6) (fun r m' => WT m' ∧ Fx (RS [2, 5, 9, 14]) m0 m' ∧ ∃ v : Int32, r = some (.int v)) 108 [(0, .ref (ad 0)), (1, .int x1), (4, .int x4), (5, .int x5), (6, .int x6), (7, .int x7)] [] m) := by
  intro n
  induction n with
  | zero =>
    refine ⟨?_, ?_, ?_, ?_⟩ <;> intros <;> exfalso <;> omega
  | succ n ih =>
    refine ⟨?_, ?_, ?_, ?_⟩
    · intro m x1 x2 x3 x4 w f j1 j2 j3 j4 hn
      refine g_X11_next_45  ?_
      refine ⟨?_, ?_⟩
      · intro c1
        have k2 := y_lel (n := 3) rfl c1
        refine (s_X11_tell w).to ?_
        rintro _ m1 ⟨w_m1, g3, rfl⟩
        have f_m1 : Fx (RS [2, 5, 9, 14]) m0 m1 := f.tr g3 (RS_sub rfl)
        refine ⟨rfl, ?_⟩
        exact ⟨w_m1, f_m1, _, rfl⟩
      · intro c4
        have k5 := y_nlel (n := 3) rfl c4
        exact ih.2.1 _ _ _ _ _ _ w f (by show (0 : Int) ≤ (x1).toInt; omega) (by show (x1).toInt ≤ (7 : Int); omega) (by show (0 : Int) ≤ (x4).toInt; omega) (by show (x4).toInt ≤ (2 : Int); omega) (by show (0 : Int) ≤ (0 : Int); omega) (by show (0 : Int) ≤ (8 : Int); omega) (by show (3 - (x4).toInt) * 1000 + (8 - (0 : Int)) * 40 + 35 < _; omega)
    · intro m x1 x2 x3 x4 x5 w f j1 j2 j3 j4 j5 j6 hn
      refine g_X11_next_54  ?_
      refine ⟨?_, ?_⟩
      · intro c1
        have r2 := w.at (a := 3) (k := 3) rfl
        have k3 := z_le c1
        have t4 := ti_addc (x := x4) (y := (1 : Int32)) (c := 1) rfl (by omega)
        exact ih.1 _ _ _ _ _ w f (by show (0 : Int) ≤ (x1).toInt; omega) (by show (x1).toInt ≤ (7 : Int); omega) (by show (0 : Int) ≤ ((x4 + (1 : Int32))).toInt; omega) (by show ((x4 + (1 : Int32))).toInt ≤ (3 : Int); omega) (by show (3 - ((x4 + (1 : Int32))).toInt) * 1000 + 900 < _; omega)
      · intro c5
        have r6 := w.at (a := 3) (k := 3) rfl
        have k7 := z_nle c5
        have t8 := ti_addc (x := x5) (y := (1 : Int32)) (c := 1) rfl (by omega)
        exact ih.2.2.1 _ _ _ _ _ _ _ w f (by show (0 : Int) ≤ (x1).toInt; omega) (by show (x1).toInt ≤ (7 : Int); omega) (by show (0 : Int) ≤ (x4).toInt; omega) (by show (x4).toInt ≤ (2 : Int); omega) (by show (0 : Int) ≤ (x5).toInt; omega) (by show (x5).toInt ≤ (7 : Int); omega) (by show (0 : Int) ≤ ((x5 + (1 : Int32))).toInt; omega) (by show ((x5 + (1 : Int32))).toInt ≤ (8 : Int); omega) (by show (3 - (x4).toInt) * 1000 + (8 - (x5).toInt) * 40 + (8 - ((x5 + (1 : Int32))).toInt) * 2 + 1 < _; omega)
    · intro m x1 x2 x3 x4 x5 x6 w f j1 j2 j3 j4 j5 j6 j7 j8 hn
      refine g_X11_next_72  ?_
      refine ⟨?_, ?_⟩
      · intro c1
        have r2 := w.at (a := 3) (k := 3) rfl
        have k3 := z_le c1
        have t4 := ti_addc (x := x5) (y := (1 : Int32)) (c := 1) rfl (by omega)
        exact ih.2.1 _ _ _ _ _ _ w f (by show (0 : Int) ≤ (x1).toInt; omega) (by show (x1).toInt ≤ (7 : Int); omega) (by show (0 : Int) ≤ (x4).toInt; omega) (by show (x4).toInt ≤ (2 : Int); omega) (by show (0 : Int) ≤ ((x5 + (1 : Int32))).toInt; omega) (by show ((x5 + (1 : Int32))).toInt ≤ (8 : Int); omega) (by show (3 - (x4).toInt) * 1000 + (8 - ((x5 + (1 : Int32))).toInt) * 40 + 35 < _; omega)
      · intro c5
        have r6 := w.at (a := 3) (k := 3) rfl
        have k7 := z_nle c5
        refine (s_X11_powerAfter w (by show (0 : Int) ≤ (x1).toInt; omega) (by show (x1).toInt ≤ (7 : Int); omega) (by show (0 : Int) ≤ (x5).toInt; omega) (by show (x5).toInt ≤ (7 : Int); omega) (by show (0 : Int) ≤ (x6).toInt; omega) (by show (x6).toInt ≤ (7 : Int); omega)).to ?_
        rintro _ m1 ⟨w_m1, g8, v2, rfl⟩
        have f_m1 : Fx (RS [2, 5, 9, 14]) m0 m1 := f.tr g8 (RS_sub rfl)
        refine ⟨v2, rfl, ?_⟩
        refine ⟨?_, ?_⟩
        · intro c9
          have k10 := y_eqr (n := -1) rfl c9
          exact ih.2.2.2 _ _ _ _ _ _ w_m1 f_m1 (by show (0 : Int) ≤ (x1).toInt; omega) (by show (x1).toInt ≤ (7 : Int); omega) (by show (0 : Int) ≤ (x4).toInt; omega) (by show (x4).toInt ≤ (2 : Int); omega) (by show (0 : Int) ≤ (x5).toInt; omega) (by show (x5).toInt ≤ (7 : Int); omega) (by show (0 : Int) ≤ (x6).toInt; omega) (by show (x6).toInt ≤ (7 : Int); omega) (by show (3 - (x4).toInt) * 1000 + (8 - (x5).toInt) * 40 + (8 - (x6).toInt) * 2 < _; omega)
        · intro c11
          have k12 := y_ner (n := -1) rfl c11
          refine ⟨?_, ?_⟩
          · intro c13
            have k14 := z_le c13
            have t15 := ti_addc (x := x6) (y := (1 : Int32)) (c := 1) rfl (by omega)
            exact ih.2.2.1 _ _ _ _ _ _ _ w_m1 f_m1 (by show (0 : Int) ≤ (x1).toInt; omega) (by show (x1).toInt ≤ (7 : Int); omega) (by show (0 : Int) ≤ (x4).toInt; omega) (by show (x4).toInt ≤ (2 : Int); omega) (by show (0 : Int) ≤ (x5).toInt; omega) (by show (x5).toInt ≤ (7 : Int); omega) (by show (0 : Int) ≤ ((x6 + (1 : Int32))).toInt; omega) (by show ((x6 + (1 : Int32))).toInt ≤ (8 : Int); omega) (by show (3 - (x4).toInt) * 1000 + (8 - (x5).toInt) * 40 + (8 - ((x6 + (1 : Int32))).toInt) * 2 + 1 < _; omega)
          · intro c16
            have k17 := z_nle c16
            exact ih.2.2.2 _ _ _ _ _ _ w_m1 f_m1 (by show (0 : Int) ≤ (x1).toInt; omega) (by show (x1).toInt ≤ (7 : Int); omega) (by show (0 : Int) ≤ (x4).toInt; omega) (by show (x4).toInt ≤ (2 : Int); omega) (by show (0 : Int) ≤ (x5).toInt; omega) (by show (x5).toInt ≤ (7 : Int); omega) (by show (0 : Int) ≤ (x6).toInt; omega) (by show (x6).toInt ≤ (7 : Int); omega) (by show (3 - (x4).toInt) * 1000 + (8 - (x5).toInt) * 40 + (8 - (x6).toInt) * 2 < _; omega)
    · intro m x1 x4 x5 x6 x7 w f j1 j2 j3 j4 j5 j6 j7 j8 hn
      refine g_X11_next_108  ?_
      have t1 := ti_addc (x := x6) (y := (1 : Int32)) (c := 1) rfl (by omega)
      exact ih.2.2.1 _ _ _ _ _ _ _ w f (by show (0 : Int) ≤ (x1).toInt; omega) (by show (x1).toInt ≤ (7 : Int); omega) (by show (0 : Int) ≤ (x4).toInt; omega) (by show (x4).toInt ≤ (2 : Int); omega) (by show (0 : Int) ≤ (x5).toInt; omega) (by show (x5).toInt ≤ (7 : Int); omega) (by show (0 : Int) ≤ ((x6 + (1 : Int32))).toInt; omega) (by show ((x6 + (1 : Int32))).toInt ≤ (8 : Int); omega) (by show (3 - (x4).toInt) * 1000 + (8 - (x5).toInt) * 40 + (8 - ((x6 + (1 : Int32))).toInt) * 2 + 1 < _; omega)
set_option maxHeartbeats 4000000 in
theorem s_X11_next {ad : Nat → Nat} {d : Nat} {m : Wm} {x1 : Int32} (w : WT m) : Ct ad μX11_next (d + 6) [.ref (ad 0), .int x1] m (fun r m' => WT m' ∧ Fx (RS [2, 5, 9, 14]) m m' ∧ ∃ v : Int32, r = some (.int v)) := by
  have f : Fx (RS [2, 5, 9, 14]) m m := Fx.rf
  refine v_X11_next  ?_
  refine (s_X1_has w).to ?_
  rintro _ m1 ⟨w_m1, g1, v2, rfl, p3, p4, p2⟩
  have f_m1 : Fx (RS [2, 5, 9, 14]) m m1 := f.tr g1 (RS_sub rfl)
  have p5 : (v2.toInt = 0 ∧ ((x1).toInt < 0 ∨ ((m.1 3 3)).toInt ≤ (x1).toInt)) ∨ (v2.toInt = 1 ∧ 0 ≤ (x1).toInt ∧ (x1).toInt < ((m.1 3 3)).toInt ∧ (x1).toInt ≤ 7) := p2
  clear p2
  refine ⟨v2, rfl, ?_⟩
  refine ⟨?_, ?_⟩
  · intro c6
    have k7 := y_ner (n := 0) rfl c6
    refine ⟨?_, ?_⟩
    · intro c8
      have r9 := w_m1.at (a := 3) (k := 3) rfl
      have k10 := y_lel (n := 2) rfl c8
      refine (s_X8_copy w_m1 SS_26 SS_21).to ?_
      rintro _ m3 ⟨w_m3, g11, rfl⟩
      have f_m3 : Fx (RS [2, 5, 9, 14]) m m3 := f_m1.tr g11 (RS_sub rfl)
      refine ⟨rfl, ?_⟩
      exact (l_X11_next (m0 := m) 1000000).1 _ _ _ _ _ w_m3 f_m3 (by show (0 : Int) ≤ (x1).toInt; omega) (by show (x1).toInt ≤ (7 : Int); omega) (by show (0 : Int) ≤ (0 : Int); omega) (by show (0 : Int) ≤ (3 : Int); omega) (by show (3 - (0 : Int)) * 1000 + 900 < _; omega)
    · intro c12
      have r13 := w_m1.at (a := 3) (k := 3) rfl
      have k14 := y_nlel (n := 2) rfl c12
      exact ⟨w_m1, f_m1, _, rfl⟩
  · intro c15
    have k16 := y_eqr (n := 0) rfl c15
    exact ⟨w_m1, f_m1, _, rfl⟩
set_option maxHeartbeats 4000000 in
theorem s_X11_seen {ad : Nat → Nat} {d : Nat} {m : Wm} {x1 x2 x3 : Int32} (w : WT m) : Ct ad μX11_seen (d + 2) [.ref (ad 0), .int x1, .int x2, .int x3] m (fun r m' => WT m' ∧ Fx (RS [8]) m m' ∧ ∃ v : Int32, r = some (.int v) ∧ ((v.toInt = -1 ∧ (m'.1 0 15).toInt = (m.1 0 15).toInt ∧ (((x1.toInt < 0 ∨ (m.1 3 3).toInt ≤ x1.toInt ∨ x2.toInt < 0 ∨ (m.1 3 3).toInt ≤ x2.toInt ∨ x1.toInt = x2.toInt)) ∨ x3.toInt < 0 ∨ 2 < x3.toInt ∨ 12 ≤ (m.1 0 15).toInt)) ∨ (v.toInt = (m.1 0 15).toInt + 1 ∧ (m'.1 0 15).toInt = (m.1 0 15).toInt + 1 ∧ 0 ≤ x1.toInt ∧ x1.toInt < (m.1 3 3).toInt ∧ 0 ≤ x2.toInt ∧ x2.toInt < (m.1 3 3).toInt ∧ x1.toInt ≠ x2.toInt ∧ 0 ≤ x3.toInt ∧ x3.toInt ≤ 2 ∧ (m.1 0 15).toInt < 12))) := by
  have f : Fx (RS [8]) m m := Fx.rf
  refine v_X11_seen  ?_
  refine (s_X1_canMeet w).to ?_
  rintro _ m1 ⟨w_m1, g1, v2, rfl, p3, p4, p2⟩
  have f_m1 : Fx (RS [8]) m m1 := f.tr g1 (RS_sub rfl)
  have p5 : (v2.toInt = 0 ∧ ((x1).toInt < 0 ∨ ((m.1 3 3)).toInt ≤ (x1).toInt ∨ (x2).toInt < 0 ∨ ((m.1 3 3)).toInt ≤ (x2).toInt ∨ (x1).toInt = (x2).toInt)) ∨ (v2.toInt = 1 ∧ 0 ≤ (x1).toInt ∧ (x1).toInt < ((m.1 3 3)).toInt ∧ (x1).toInt ≤ 7 ∧ 0 ≤ (x2).toInt ∧ (x2).toInt < ((m.1 3 3)).toInt ∧ (x2).toInt ≤ 7 ∧ (x1).toInt ≠ (x2).toInt) := p2
  clear p2
  have e6 : (m1.1 3 3).toInt = ((m.1 3 3)).toInt := congrArg _ (g1.at (a := 3) (k := 3) (by decide))
  have e7 : (m1.1 0 15).toInt = ((m.1 0 15)).toInt := congrArg _ (g1.at (a := 0) (k := 15) (by decide))
  refine ⟨v2, rfl, ?_⟩
  refine ⟨?_, ?_⟩
  · intro c8
    have k9 := y_eqr (n := 0) rfl c8
    have r10 := w_m1.at (a := 0) (k := 15) rfl
    exact ⟨w_m1, f_m1, _, rfl, (by show ((-1 : Int) = -1 ∧ ((m1.1 0 15)).toInt = (m.1 0 15).toInt ∧ (((x1.toInt < 0 ∨ (m.1 3 3).toInt ≤ x1.toInt ∨ x2.toInt < 0 ∨ (m.1 3 3).toInt ≤ x2.toInt ∨ x1.toInt = x2.toInt)) ∨ x3.toInt < 0 ∨ 2 < x3.toInt ∨ 12 ≤ (m.1 0 15).toInt)) ∨ ((-1 : Int) = (m.1 0 15).toInt + 1 ∧ ((m1.1 0 15)).toInt = (m.1 0 15).toInt + 1 ∧ 0 ≤ x1.toInt ∧ x1.toInt < (m.1 3 3).toInt ∧ 0 ≤ x2.toInt ∧ x2.toInt < (m.1 3 3).toInt ∧ x1.toInt ≠ x2.toInt ∧ 0 ≤ x3.toInt ∧ x3.toInt ≤ 2 ∧ (m.1 0 15).toInt < 12); omega)⟩
  · intro c11
    have k12 := y_ner (n := 0) rfl c11
    refine ⟨?_, ?_⟩
    · intro c13
      have k14 := y_ltr (n := 0) rfl c13
      have r15 := w_m1.at (a := 0) (k := 15) rfl
      exact ⟨w_m1, f_m1, _, rfl, (by show ((-1 : Int) = -1 ∧ ((m1.1 0 15)).toInt = (m.1 0 15).toInt ∧ (((x1.toInt < 0 ∨ (m.1 3 3).toInt ≤ x1.toInt ∨ x2.toInt < 0 ∨ (m.1 3 3).toInt ≤ x2.toInt ∨ x1.toInt = x2.toInt)) ∨ x3.toInt < 0 ∨ 2 < x3.toInt ∨ 12 ≤ (m.1 0 15).toInt)) ∨ ((-1 : Int) = (m.1 0 15).toInt + 1 ∧ ((m1.1 0 15)).toInt = (m.1 0 15).toInt + 1 ∧ 0 ≤ x1.toInt ∧ x1.toInt < (m.1 3 3).toInt ∧ 0 ≤ x2.toInt ∧ x2.toInt < (m.1 3 3).toInt ∧ x1.toInt ≠ x2.toInt ∧ 0 ≤ x3.toInt ∧ x3.toInt ≤ 2 ∧ (m.1 0 15).toInt < 12); omega)⟩
    · intro c16
      have k17 := y_nltr (n := 0) rfl c16
      refine ⟨?_, ?_⟩
      · intro c18
        have k19 := y_ltl (n := 2) rfl c18
        have r20 := w_m1.at (a := 0) (k := 15) rfl
        exact ⟨w_m1, f_m1, _, rfl, (by show ((-1 : Int) = -1 ∧ ((m1.1 0 15)).toInt = (m.1 0 15).toInt ∧ (((x1.toInt < 0 ∨ (m.1 3 3).toInt ≤ x1.toInt ∨ x2.toInt < 0 ∨ (m.1 3 3).toInt ≤ x2.toInt ∨ x1.toInt = x2.toInt)) ∨ x3.toInt < 0 ∨ 2 < x3.toInt ∨ 12 ≤ (m.1 0 15).toInt)) ∨ ((-1 : Int) = (m.1 0 15).toInt + 1 ∧ ((m1.1 0 15)).toInt = (m.1 0 15).toInt + 1 ∧ 0 ≤ x1.toInt ∧ x1.toInt < (m.1 3 3).toInt ∧ 0 ≤ x2.toInt ∧ x2.toInt < (m.1 3 3).toInt ∧ x1.toInt ≠ x2.toInt ∧ 0 ≤ x3.toInt ∧ x3.toInt ≤ 2 ∧ (m.1 0 15).toInt < 12); omega)⟩
      · intro c21
        have k22 := y_nltl (n := 2) rfl c21
        refine ⟨?_, ?_⟩
        · intro c23
          have r24 := w_m1.at (a := 0) (k := 15) rfl
          have k25 := y_ltr (n := 12) rfl c23
          refine ⟨?_, ?_⟩
          · exact vpi (by omega) (by omega)
          · refine ⟨?_, ?_⟩
            · show vp_in (m1.1 0 15) 12
              exact vpi (by omega) (by omega)
            · refine ⟨?_, ?_⟩
              · show vp_in (m1.1 0 15) 12
                exact vpi (by omega) (by omega)
              · have w26 : WT (uI m1 146 ((m1.1 0 15).toNatClampNeg) x1) := w_m1.t rfl (by show (0 : Int) ≤ (x1).toInt; omega) (by show (x1).toInt ≤ 7; omega)
                have f26 : Fx (RS [8]) m (uI m1 146 ((m1.1 0 15).toNatClampNeg) x1) := f_m1.i rfl
                have w27 : WT (uI (uI m1 146 ((m1.1 0 15).toNatClampNeg) x1) 147 (((uI m1 146 ((m1.1 0 15).toNatClampNeg) x1).1 0 15).toNatClampNeg) x2) := w26.t rfl (by show (0 : Int) ≤ (x2).toInt; omega) (by show (x2).toInt ≤ 7; omega)
                have f27 : Fx (RS [8]) m (uI (uI m1 146 ((m1.1 0 15).toNatClampNeg) x1) 147 (((uI m1 146 ((m1.1 0 15).toNatClampNeg) x1).1 0 15).toNatClampNeg) x2) := f26.i rfl
                have w28 : WT (uI (uI (uI m1 146 ((m1.1 0 15).toNatClampNeg) x1) 147 (((uI m1 146 ((m1.1 0 15).toNatClampNeg) x1).1 0 15).toNatClampNeg) x2) 148 (((uI (uI m1 146 ((m1.1 0 15).toNatClampNeg) x1) 147 (((uI m1 146 ((m1.1 0 15).toNatClampNeg) x1).1 0 15).toNatClampNeg) x2).1 0 15).toNatClampNeg) x3) := w27.n rfl
                have f28 : Fx (RS [8]) m (uI (uI (uI m1 146 ((m1.1 0 15).toNatClampNeg) x1) 147 (((uI m1 146 ((m1.1 0 15).toNatClampNeg) x1).1 0 15).toNatClampNeg) x2) 148 (((uI (uI m1 146 ((m1.1 0 15).toNatClampNeg) x1) 147 (((uI m1 146 ((m1.1 0 15).toNatClampNeg) x1).1 0 15).toNatClampNeg) x2).1 0 15).toNatClampNeg) x3) := f27.i rfl
                have t30 := ti_addc (x := (m1.1 0 15)) (y := (1 : Int32)) (c := 1) rfl (by omega)
                have w29 : WT (uI (uI (uI (uI m1 146 ((m1.1 0 15).toNatClampNeg) x1) 147 (((uI m1 146 ((m1.1 0 15).toNatClampNeg) x1).1 0 15).toNatClampNeg) x2) 148 (((uI (uI m1 146 ((m1.1 0 15).toNatClampNeg) x1) 147 (((uI m1 146 ((m1.1 0 15).toNatClampNeg) x1).1 0 15).toNatClampNeg) x2).1 0 15).toNatClampNeg) x3) 0 15 (((uI (uI (uI m1 146 ((m1.1 0 15).toNatClampNeg) x1) 147 (((uI m1 146 ((m1.1 0 15).toNatClampNeg) x1).1 0 15).toNatClampNeg) x2) 148 (((uI (uI m1 146 ((m1.1 0 15).toNatClampNeg) x1) 147 (((uI m1 146 ((m1.1 0 15).toNatClampNeg) x1).1 0 15).toNatClampNeg) x2).1 0 15).toNatClampNeg) x3).1 0 15) + (1 : Int32))) := w28.t rfl (by show (0 : Int) ≤ (((m1.1 0 15) + (1 : Int32))).toInt; omega) (by show (((m1.1 0 15) + (1 : Int32))).toInt ≤ 12; omega)
                have f29 : Fx (RS [8]) m (uI (uI (uI (uI m1 146 ((m1.1 0 15).toNatClampNeg) x1) 147 (((uI m1 146 ((m1.1 0 15).toNatClampNeg) x1).1 0 15).toNatClampNeg) x2) 148 (((uI (uI m1 146 ((m1.1 0 15).toNatClampNeg) x1) 147 (((uI m1 146 ((m1.1 0 15).toNatClampNeg) x1).1 0 15).toNatClampNeg) x2).1 0 15).toNatClampNeg) x3) 0 15 (((uI (uI (uI m1 146 ((m1.1 0 15).toNatClampNeg) x1) 147 (((uI m1 146 ((m1.1 0 15).toNatClampNeg) x1).1 0 15).toNatClampNeg) x2) 148 (((uI (uI m1 146 ((m1.1 0 15).toNatClampNeg) x1) 147 (((uI m1 146 ((m1.1 0 15).toNatClampNeg) x1).1 0 15).toNatClampNeg) x2).1 0 15).toNatClampNeg) x3).1 0 15) + (1 : Int32))) := f28.i rfl
                exact ⟨w29, f29, _, rfl, (by show ((((m1.1 0 15) + (1 : Int32))).toInt = -1 ∧ (((m1.1 0 15) + (1 : Int32))).toInt = (m.1 0 15).toInt ∧ (((x1.toInt < 0 ∨ (m.1 3 3).toInt ≤ x1.toInt ∨ x2.toInt < 0 ∨ (m.1 3 3).toInt ≤ x2.toInt ∨ x1.toInt = x2.toInt)) ∨ x3.toInt < 0 ∨ 2 < x3.toInt ∨ 12 ≤ (m.1 0 15).toInt)) ∨ ((((m1.1 0 15) + (1 : Int32))).toInt = (m.1 0 15).toInt + 1 ∧ (((m1.1 0 15) + (1 : Int32))).toInt = (m.1 0 15).toInt + 1 ∧ 0 ≤ x1.toInt ∧ x1.toInt < (m.1 3 3).toInt ∧ 0 ≤ x2.toInt ∧ x2.toInt < (m.1 3 3).toInt ∧ x1.toInt ≠ x2.toInt ∧ 0 ≤ x3.toInt ∧ x3.toInt ≤ 2 ∧ (m.1 0 15).toInt < 12); omega)⟩
        · intro c31
          have r32 := w_m1.at (a := 0) (k := 15) rfl
          have k33 := y_nltr (n := 12) rfl c31
          exact ⟨w_m1, f_m1, _, rfl, (by show ((-1 : Int) = -1 ∧ ((m1.1 0 15)).toInt = (m.1 0 15).toInt ∧ (((x1.toInt < 0 ∨ (m.1 3 3).toInt ≤ x1.toInt ∨ x2.toInt < 0 ∨ (m.1 3 3).toInt ≤ x2.toInt ∨ x1.toInt = x2.toInt)) ∨ x3.toInt < 0 ∨ 2 < x3.toInt ∨ 12 ≤ (m.1 0 15).toInt)) ∨ ((-1 : Int) = (m.1 0 15).toInt + 1 ∧ ((m1.1 0 15)).toInt = (m.1 0 15).toInt + 1 ∧ 0 ≤ x1.toInt ∧ x1.toInt < (m.1 3 3).toInt ∧ 0 ≤ x2.toInt ∧ x2.toInt < (m.1 3 3).toInt ∧ x1.toInt ≠ x2.toInt ∧ 0 ≤ x3.toInt ∧ x3.toInt ≤ 2 ∧ (m.1 0 15).toInt < 12); omega)⟩
set_option maxHeartbeats 4000000 in
theorem l_X11_countThrowers {ad : Nat → Nat} {d : Nat} {m0 : Wm}  : ∀ n : Nat, (∀ (m : Wm) (x1 : Int32), WT m → Fx (RS [9]) m0 m → (0 : Int) ≤ x1.toInt → x1.toInt ≤ (11 : Int) → 0 * x1.toInt < (n : Int) → AW ad E0 μX11_countThrowers d (fun r m' => WT m' ∧ Fx (RS [9]) m0 m' ∧ r = none) 24 [(0, .ref (ad 0)), (1, .int x1)] [] m) := by
  intro n
  induction n with
  | zero =>
    intros
    exfalso
    omega
  | succ n ih =>
    intro m x1 w f j1 j2 hn
    refine g_X11_countThrowers_24  ?_
    refine ⟨?_, ?_⟩
    · exact vpi (by omega) (by omega)
    · refine ⟨?_, ?_⟩
      · intro c1
        have k2 := y_eqr (n := 1) rfl c1
        exact ⟨w, f, rfl⟩
      · intro c3
        have k4 := y_ner (n := 1) rfl c3
        refine ⟨?_, ?_⟩
        · exact vpi (by omega) (by omega)
        · refine ⟨?_, ?_⟩
          · have r5 := w.at (a := 147) (k := x1.toNatClampNeg) rfl
            exact vpi (by omega) (by omega)
          · refine ⟨?_, ?_⟩
            · have r6 := w.at (a := 147) (k := x1.toNatClampNeg) rfl
              exact vpi (by omega) (by omega)
            · have w7 : WT (uI m 149 ((m.1 147 x1.toNatClampNeg).toNatClampNeg) ((m.1 149 ((m.1 147 x1.toNatClampNeg).toNatClampNeg)) + (1 : Int32))) := w.n rfl
              have f7 : Fx (RS [9]) m0 (uI m 149 ((m.1 147 x1.toNatClampNeg).toNatClampNeg) ((m.1 149 ((m.1 147 x1.toNatClampNeg).toNatClampNeg)) + (1 : Int32))) := f.i rfl
              exact ⟨w7, f7, rfl⟩
set_option maxHeartbeats 4000000 in
theorem s_X11_countThrowers {ad : Nat → Nat} {d : Nat} {m : Wm} {x1 : Int32} (w : WT m) (i1 : (0 : Int) ≤ x1.toInt) (i2 : x1.toInt ≤ (11 : Int)) : Ct ad μX11_countThrowers d [.ref (ad 0), .int x1] m (fun r m' => WT m' ∧ Fx (RS [9]) m m' ∧ r = none) := by
  have f : Fx (RS [9]) m m := Fx.rf
  refine v_X11_countThrowers  ?_
  refine ⟨?_, ?_⟩
  · exact vpi (by omega) (by omega)
  · refine ⟨?_, ?_⟩
    · intro c1
      have k2 := y_eqr (n := 0) rfl c1
      exact (l_X11_countThrowers (m0 := m) 1000000) _ _ w f (by show (0 : Int) ≤ (x1).toInt; omega) (by show (x1).toInt ≤ (11 : Int); omega) (by show 0 * (x1).toInt < _; omega)
    · intro c3
      have k4 := y_ner (n := 0) rfl c3
      refine ⟨?_, ?_⟩
      · exact vpi (by omega) (by omega)
      · refine ⟨?_, ?_⟩
        · have r5 := w.at (a := 146) (k := x1.toNatClampNeg) rfl
          exact vpi (by omega) (by omega)
        · refine ⟨?_, ?_⟩
          · have r6 := w.at (a := 146) (k := x1.toNatClampNeg) rfl
            exact vpi (by omega) (by omega)
          · have w7 : WT (uI m 149 ((m.1 146 x1.toNatClampNeg).toNatClampNeg) ((m.1 149 ((m.1 146 x1.toNatClampNeg).toNatClampNeg)) + (1 : Int32))) := w.n rfl
            have f7 : Fx (RS [9]) m (uI m 149 ((m.1 146 x1.toNatClampNeg).toNatClampNeg) ((m.1 149 ((m.1 146 x1.toNatClampNeg).toNatClampNeg)) + (1 : Int32))) := f.i rfl
            exact (l_X11_countThrowers (m0 := m) 1000000) _ _ w7 f7 (by show (0 : Int) ≤ (x1).toInt; omega) (by show (x1).toInt ≤ (11 : Int); omega) (by show 0 * (x1).toInt < _; omega)
set_option maxHeartbeats 4000000 in
theorem l_X11_found {ad : Nat → Nat} {d : Nat} {m0 : Wm}  : ∀ n : Nat, (∀ (m : Wm) (x1 : Int32), WT m → Fx (RS [9, 14]) m0 m → (0 : Int) ≤ x1.toInt → x1.toInt ≤ (8 : Int) → 1000 - x1.toInt < (n : Int) → AW ad E0 μX11_found (d + 5) (fun r m' => WT m' ∧ Fx (RS [9, 14]) m0 m' ∧ ∃ v : Int32, r = some (.int v)) 2 [(0, .ref (ad 0)), (1, .int x1)] [] m) ∧ (∀ (m : Wm) (x1 x2 : Int32), WT m → Fx (RS [9, 14]) m0 m → (0 : Int) ≤ x2.toInt → x2.toInt ≤ (12 : Int) → 500 - x2.toInt < (n : Int) → AW ad E0 μX11_found (d + 5) (fun r m' => WT m' ∧ Fx (RS [9, 14]) m0 m' ∧ ∃ v : Int32, r = some (.int v)) 25 [(0, .ref (ad 0)), (1, .int x1), (2, .int x2)] [] m) ∧ (∀ (m : Wm) (x1 x2 x3 : Int32), WT m → Fx (RS [9, 14]) m0 m → (0 : Int) ≤ x2.toInt → x2.toInt ≤ (7 : Int) → (0 : Int) ≤ x3.toInt → x3.toInt ≤ (8 : Int) → 100 - x3.toInt < (n : Int) → AW ad E0 μX11_found (d + 5) (fun r m' => WT m' ∧ Fx (RS [9, 14]) m0 m' ∧ ∃ v : Int32, r = some (.int v)) 87 [(0, .ref (ad 0)), (1, .int x1), (2, .int x2), (3, .int x3)] [] m) ∧ (∀ (m : Wm) (x1 x2 : Int32) (z0 z1 : Int64), WT m → Fx (RS [9, 14]) m0 m → (0 : Int) ≤ x2.toInt → x2.toInt ≤ (7 : Int) → 0 * x2.toInt < (n : Int) → AW ad E0 μX11_found (d + 5) (fun r m' => WT m' ∧ Fx (RS [9, 14]) m0 m' ∧ ∃ v : Int32, r = some (.int v)) 139 [(0, .ref (ad 0)), (1, .int x1), (2, .int x2)] [.long z0, .long z1, .ref (ad 0)] m) := by
  intro n
  induction n with
  | zero =>
    refine ⟨?_, ?_, ?_, ?_⟩ <;> intros <;> exfalso <;> omega
  | succ n ih =>
    refine ⟨?_, ?_, ?_, ?_⟩
    · intro m x1 w f j1 j2 hn
      refine g_X11_found_2  ?_
      refine ⟨?_, ?_⟩
      · intro c1
        have k2 := y_lel (n := 8) rfl c1
        exact ih.2.1 _ _ _ w f (by show (0 : Int) ≤ (0 : Int); omega) (by show (0 : Int) ≤ (12 : Int); omega) (by show 500 - (0 : Int) < _; omega)
      · intro c3
        have k4 := y_nlel (n := 8) rfl c3
        refine ⟨?_, ?_⟩
        · exact vpi (by omega) (by omega)
        · have w5 : WT (uI m 149 x1.toNatClampNeg (0 : Int32)) := w.n rfl
          have f5 : Fx (RS [9, 14]) m0 (uI m 149 x1.toNatClampNeg (0 : Int32)) := f.i rfl
          have t6 := ti_addc (x := x1) (y := (1 : Int32)) (c := 1) rfl (by omega)
          exact ih.1 _ _ w5 f5 (by show (0 : Int) ≤ ((x1 + (1 : Int32))).toInt; omega) (by show ((x1 + (1 : Int32))).toInt ≤ (8 : Int); omega) (by show 1000 - ((x1 + (1 : Int32))).toInt < _; omega)
    · intro m x1 x2 w f j1 j2 hn
      refine g_X11_found_25  ?_
      refine ⟨?_, ?_⟩
      · intro c1
        have r2 := w.at (a := 0) (k := 15) rfl
        have k3 := z_le c1
        exact ih.2.2.1 _ _ _ _ w f (by show (0 : Int) ≤ (0 : Int); omega) (by show (0 : Int) ≤ (7 : Int); omega) (by show (0 : Int) ≤ (0 : Int); omega) (by show (0 : Int) ≤ (8 : Int); omega) (by show 100 - (0 : Int) < _; omega)
      · intro c4
        have r5 := w.at (a := 0) (k := 15) rfl
        have k6 := z_nle c4
        refine ⟨?_, ?_⟩
        · exact vpi (by omega) (by omega)
        · refine ⟨?_, ?_⟩
          · exact vpi (by omega) (by omega)
          · have r7 := w.at (a := 146) (k := x2.toNatClampNeg) rfl
            have r8 := w.at (a := 147) (k := x2.toNatClampNeg) rfl
            refine (s_X1_result w SS_21 (by show (0 : Int) ≤ ((m.1 146 x2.toNatClampNeg)).toInt; omega) (by show ((m.1 146 x2.toNatClampNeg)).toInt ≤ (7 : Int); omega) (by show (0 : Int) ≤ ((m.1 147 x2.toNatClampNeg)).toInt; omega) (by show ((m.1 147 x2.toNatClampNeg)).toInt ≤ (7 : Int); omega)).to ?_
            rintro _ m1 ⟨w_m1, g9, v2, rfl, p10, p11⟩
            have f_m1 : Fx (RS [9, 14]) m0 m1 := f.tr g9 (RS_sub rfl)
            refine ⟨v2, rfl, ?_⟩
            refine ⟨?_, ?_⟩
            · exact vpi (by omega) (by omega)
            · refine ⟨?_, ?_⟩
              · intro c12
                have k13 := z_eq c12
                have t14 := ti_addc (x := x2) (y := (1 : Int32)) (c := 1) rfl (by omega)
                exact ih.2.1 _ _ _ w_m1 f_m1 (by show (0 : Int) ≤ ((x2 + (1 : Int32))).toInt; omega) (by show ((x2 + (1 : Int32))).toInt ≤ (12 : Int); omega) (by show 500 - ((x2 + (1 : Int32))).toInt < _; omega)
              · intro c15
                have k16 := z_ne c15
                refine (s_X11_countThrowers w_m1 (by show (0 : Int) ≤ (x2).toInt; omega) (by show (x2).toInt ≤ (11 : Int); omega)).to ?_
                rintro _ m3 ⟨w_m3, g17, rfl⟩
                have f_m3 : Fx (RS [9, 14]) m0 m3 := f_m1.tr g17 (RS_sub rfl)
                refine ⟨rfl, ?_⟩
                have t18 := ti_addc (x := x2) (y := (1 : Int32)) (c := 1) rfl (by omega)
                exact ih.2.1 _ _ _ w_m3 f_m3 (by show (0 : Int) ≤ ((x2 + (1 : Int32))).toInt; omega) (by show ((x2 + (1 : Int32))).toInt ≤ (12 : Int); omega) (by show 500 - ((x2 + (1 : Int32))).toInt < _; omega)
    · intro m x1 x2 x3 w f j1 j2 j3 j4 hn
      refine g_X11_found_87  ?_
      refine ⟨?_, ?_⟩
      · intro c1
        have r2 := w.at (a := 3) (k := 3) rfl
        have k3 := z_le c1
        refine (s_J6_bitCount w).to ?_
        rintro _ m1 ⟨w_m1, g4, v2, rfl⟩
        have f_m1 : Fx (RS [9, 14]) m0 m1 := f.tr g4 (RS_sub rfl)
        refine ⟨v2, rfl, ?_⟩
        refine ⟨?_, ?_⟩
        · intro c5
          have k6 := y_ner (n := 0) rfl c5
          exact ih.2.2.2 _ _ _ _ _ w_m1 f_m1 (by show (0 : Int) ≤ (x2).toInt; omega) (by show (x2).toInt ≤ (7 : Int); omega) (by show 0 * (x2).toInt < _; omega)
        · intro c7
          have k8 := y_eqr (n := 0) rfl c7
          exact ih.2.2.2 _ _ _ _ _ w_m1 f_m1 (by show (0 : Int) ≤ (x2).toInt; omega) (by show (x2).toInt ≤ (7 : Int); omega) (by show 0 * (x2).toInt < _; omega)
      · intro c9
        have r10 := w.at (a := 3) (k := 3) rfl
        have k11 := z_nle c9
        refine ⟨?_, ?_⟩
        · exact vpi (by omega) (by omega)
        · refine ⟨?_, ?_⟩
          · exact vpi (by omega) (by omega)
          · refine ⟨?_, ?_⟩
            · intro c12
              have k13 := z_le c12
              have t14 := ti_addc (x := x3) (y := (1 : Int32)) (c := 1) rfl (by omega)
              exact ih.2.2.1 _ _ _ _ w f (by show (0 : Int) ≤ (x2).toInt; omega) (by show (x2).toInt ≤ (7 : Int); omega) (by show (0 : Int) ≤ ((x3 + (1 : Int32))).toInt; omega) (by show ((x3 + (1 : Int32))).toInt ≤ (8 : Int); omega) (by show 100 - ((x3 + (1 : Int32))).toInt < _; omega)
            · intro c15
              have k16 := z_nle c15
              have t17 := ti_addc (x := x3) (y := (1 : Int32)) (c := 1) rfl (by omega)
              exact ih.2.2.1 _ _ _ _ w f (by show (0 : Int) ≤ (x3).toInt; omega) (by show (x3).toInt ≤ (7 : Int); omega) (by show (0 : Int) ≤ ((x3 + (1 : Int32))).toInt; omega) (by show ((x3 + (1 : Int32))).toInt ≤ (8 : Int); omega) (by show 100 - ((x3 + (1 : Int32))).toInt < _; omega)
    · intro m x1 x2 z0 z1 w f j1 j2 hn
      refine g_X11_found_139  ?_
      refine ⟨?_, ?_⟩
      · exact vpi (by omega) (by omega)
      · refine (s_X11_tell__ w).to ?_
        rintro _ m1 ⟨w_m1, g1, rfl⟩
        have f_m1 : Fx (RS [9, 14]) m0 m1 := f.tr g1 (RS_sub rfl)
        refine ⟨rfl, ?_⟩
        exact ⟨w_m1, f_m1, _, rfl⟩
set_option maxHeartbeats 4000000 in
theorem s_X11_found {ad : Nat → Nat} {d : Nat} {m : Wm} (w : WT m) : Ct ad μX11_found (d + 5) [.ref (ad 0)] m (fun r m' => WT m' ∧ Fx (RS [9, 14]) m m' ∧ ∃ v : Int32, r = some (.int v)) := by
  have f : Fx (RS [9, 14]) m m := Fx.rf
  refine v_X11_found  ?_
  exact (l_X11_found (m0 := m) 1000000).1 _ _ w f (by show (0 : Int) ≤ (0 : Int); omega) (by show (0 : Int) ≤ (8 : Int); omega) (by show 1000 - (0 : Int) < _; omega)
set_option maxHeartbeats 4000000 in
theorem l_X11_prize {ad : Nat → Nat} {d : Nat} {m0 : Wm}  : ∀ n : Nat, (∀ (m : Wm) (x1 x2 x3 : Int32), WT m → Fx (RS [9]) m0 m → (0 : Int) ≤ x1.toInt → x1.toInt ≤ (7 : Int) → (0 : Int) ≤ x3.toInt → x3.toInt ≤ (8 : Int) → 8 - x3.toInt < (n : Int) → AW ad E0 μX11_prize (d + 1) (fun r m' => WT m' ∧ Fx (RS [9]) m0 m' ∧ ∃ v : Int32, r = some (.int v)) 19 [(0, .ref (ad 0)), (1, .int x1), (2, .int x2), (3, .int x3)] [] m) := by
  intro n
  induction n with
  | zero =>
    intros
    exfalso
    omega
  | succ n ih =>
    intro m x1 x2 x3 w f j1 j2 j3 j4 hn
    refine g_X11_prize_19  ?_
    refine ⟨?_, ?_⟩
    · intro c1
      have r2 := w.at (a := 3) (k := 3) rfl
      have k3 := z_le c1
      refine ⟨?_, ?_⟩
      · exact vpi (by omega) (by omega)
      · refine (s_X11_tell_ w).to ?_
        rintro _ m1 ⟨w_m1, g4, rfl⟩
        have f_m1 : Fx (RS [9]) m0 m1 := f.tr g4 (RS_sub rfl)
        refine ⟨rfl, ?_⟩
        exact ⟨w_m1, f_m1, _, rfl⟩
    · intro c5
      have r6 := w.at (a := 3) (k := 3) rfl
      have k7 := z_nle c5
      refine ⟨?_, ?_⟩
      · exact vpi (by omega) (by omega)
      · refine ⟨?_, ?_⟩
        · exact vpi (by omega) (by omega)
        · refine ⟨?_, ?_⟩
          · exact vpi (by omega) (by omega)
          · refine ⟨?_, ?_⟩
            · intro c8
              have k9 := z_le c8
              have t10 := ti_addc (x := x3) (y := (1 : Int32)) (c := 1) rfl (by omega)
              exact ih _ _ _ _ w f (by show (0 : Int) ≤ (x1).toInt; omega) (by show (x1).toInt ≤ (7 : Int); omega) (by show (0 : Int) ≤ ((x3 + (1 : Int32))).toInt; omega) (by show ((x3 + (1 : Int32))).toInt ≤ (8 : Int); omega) (by show 8 - ((x3 + (1 : Int32))).toInt < _; omega)
            · intro c11
              have k12 := z_nle c11
              have t13 := ti_addc (x := x3) (y := (1 : Int32)) (c := 1) rfl (by omega)
              exact ih _ _ _ _ w f (by show (0 : Int) ≤ (x3).toInt; omega) (by show (x3).toInt ≤ (7 : Int); omega) (by show (0 : Int) ≤ ((x3 + (1 : Int32))).toInt; omega) (by show ((x3 + (1 : Int32))).toInt ≤ (8 : Int); omega) (by show 8 - ((x3 + (1 : Int32))).toInt < _; omega)
set_option maxHeartbeats 4000000 in
theorem s_X11_prize {ad : Nat → Nat} {d : Nat} {m : Wm} (w : WT m) : Ct ad μX11_prize (d + 1) [.ref (ad 0)] m (fun r m' => WT m' ∧ Fx (RS [9]) m m' ∧ ∃ v : Int32, r = some (.int v)) := by
  have f : Fx (RS [9]) m m := Fx.rf
  refine v_X11_prize  ?_
  refine ⟨?_, ?_⟩
  · intro c1
    have r2 := w.at (a := 3) (k := 3) rfl
    have k3 := y_ner (n := 0) rfl c1
    exact (l_X11_prize (m0 := m) 1000000) _ _ _ _ w f (by show (0 : Int) ≤ (0 : Int); omega) (by show (0 : Int) ≤ (7 : Int); omega) (by show (0 : Int) ≤ (0 : Int); omega) (by show (0 : Int) ≤ (8 : Int); omega) (by show 8 - (0 : Int) < _; omega)
  · intro c4
    have r5 := w.at (a := 3) (k := 3) rfl
    have k6 := y_eqr (n := 0) rfl c4
    exact ⟨w, f, _, rfl⟩
set_option maxHeartbeats 4000000 in
theorem l_X11_playAhead {ad : Nat → Nat} {d : Nat} {m0 : Wm}  : ∀ n : Nat, (∀ (m : Wm) (x1 x2 x3 : Int32), WT m → Fx (RS [2, 5, 14]) m0 m → (0 : Int) ≤ x1.toInt → x1.toInt ≤ (50 : Int) → (0 : Int) ≤ x3.toInt → x3.toInt ≤ (50 : Int) → (50 - x3.toInt) * 100 + 60 < (n : Int) → AW ad E0 μX11_playAhead (d + 5) (fun r m' => WT m' ∧ Fx (RS [2, 5, 14]) m0 m' ∧ r = none) 18 [(0, .ref (ad 0)), (1, .int x1), (2, .int x2), (3, .int x3)] [] m) ∧ (∀ (m : Wm) (x1 x2 x3 x4 x5 : Int32), WT m → Fx (RS [2, 5, 14]) m0 m → (0 : Int) ≤ x1.toInt → x1.toInt ≤ (50 : Int) → (0 : Int) ≤ x3.toInt → x3.toInt ≤ (49 : Int) → (0 : Int) ≤ x4.toInt → x4.toInt ≤ (48 : Int) → (0 : Int) ≤ x5.toInt → x5.toInt ≤ (48 : Int) → (50 - x3.toInt) * 100 + 48 - x5.toInt < (n : Int) → AW ad E0 μX11_playAhead (d + 5) (fun r m' => WT m' ∧ Fx (RS [2, 5, 14]) m0 m' ∧ r = none) 45 [(0, .ref (ad 0)), (1, .int x1), (2, .int x2), (3, .int x3), (4, .int x4), (5, .int x5)] [] m) := by
  intro n
  induction n with
  | zero =>
    refine ⟨?_, ?_⟩ <;> intros <;> exfalso <;> omega
  | succ n ih =>
    refine ⟨?_, ?_⟩
    · intro m x1 x2 x3 w f j1 j2 j3 j4 hn
      refine g_X11_playAhead_18  ?_
      refine ⟨?_, ?_⟩
      · intro c1
        have k2 := z_le c1
        exact ⟨w, f, rfl⟩
      · intro c3
        have k4 := z_nle c3
        obtain ⟨r1, e5, q6⟩ := w.r09
        refine ⟨r1, e5, Pl_of q6, ?_⟩
        refine (s_X3_begin w q6).to ?_
        rintro _ m2 ⟨w_m2, g7, v3, rfl, p8, p9⟩
        have f_m2 : Fx (RS [2, 5, 14]) m0 m2 := f.tr g7 (RS_sub rfl)
        refine ⟨v3, rfl, ?_⟩
        obtain ⟨r4, e10, q11⟩ := w_m2.r09
        refine ⟨r4, e10, Pl_of q11, ?_⟩
        refine (s_X3_begin w_m2 q11).to ?_
        rintro _ m5 ⟨w_m5, g12, v6, rfl, p13, p14⟩
        have f_m5 : Fx (RS [2, 5, 14]) m0 m5 := f_m2.tr g12 (RS_sub rfl)
        refine ⟨v6, rfl, ?_⟩
        exact ih.2 _ _ _ _ _ _ w_m5 f_m5 (by show (0 : Int) ≤ (x1).toInt; omega) (by show (x1).toInt ≤ (50 : Int); omega) (by show (0 : Int) ≤ (x3).toInt; omega) (by show (x3).toInt ≤ (49 : Int); omega) (by show (0 : Int) ≤ (v3).toInt; omega) (by show (v3).toInt ≤ (48 : Int); omega) (by show (0 : Int) ≤ (v6).toInt; omega) (by show (v6).toInt ≤ (48 : Int); omega) (by show (50 - (x3).toInt) * 100 + 48 - (v6).toInt < _; omega)
    · intro m x1 x2 x3 x4 x5 w f j1 j2 j3 j4 j5 j6 j7 j8 hn
      refine g_X11_playAhead_45  ?_
      refine ⟨?_, ?_⟩
      · intro c1
        have k2 := z_le c1
        obtain ⟨r1, e3, q4⟩ := w.r09
        refine ⟨r1, e3, Pl_of q4, ?_⟩
        refine (s_X3_after w q4).to ?_
        rintro _ m2 ⟨w_m2, g5, v3, rfl⟩
        have f_m2 : Fx (RS [2, 5, 14]) m0 m2 := f.tr g5 (RS_sub rfl)
        refine ⟨v3, rfl, ?_⟩
        have t6 := ti_addc (x := x3) (y := (1 : Int32)) (c := 1) rfl (by omega)
        exact ih.1 _ _ _ _ w_m2 f_m2 (by show (0 : Int) ≤ (x1).toInt; omega) (by show (x1).toInt ≤ (50 : Int); omega) (by show (0 : Int) ≤ ((x3 + (1 : Int32))).toInt; omega) (by show ((x3 + (1 : Int32))).toInt ≤ (50 : Int); omega) (by show (50 - ((x3 + (1 : Int32))).toInt) * 100 + 60 < _; omega)
      · intro c7
        have k8 := z_nle c7
        obtain ⟨r4, e9, q10⟩ := w.r09
        refine ⟨r4, e9, Pl_of q10, ?_⟩
        refine ⟨?_, ?_⟩
        · exact vpi (by omega) (by omega)
        · refine ⟨r4, e9, Pl_of q10, ?_⟩
          refine ⟨?_, ?_⟩
          · exact vpi (by omega) (by omega)
          · refine ⟨r4, e9, Pl_of q10, ?_⟩
            refine ⟨?_, ?_⟩
            · exact vpi (by omega) (by omega)
            · have r11 := w.plj (j := 1) (k := x5.toNatClampNeg) q10 rfl rfl
              have r12 := w.plj (j := 2) (k := x5.toNatClampNeg) q10 rfl rfl
              refine (s_X1_result w SS_26 (by show (0 : Int) ≤ ((m.1 (r4 + 1) x5.toNatClampNeg)).toInt; omega) (by show ((m.1 (r4 + 1) x5.toNatClampNeg)).toInt ≤ (7 : Int); omega) (by show (0 : Int) ≤ ((m.1 (r4 + 2) x5.toNatClampNeg)).toInt; omega) (by show ((m.1 (r4 + 2) x5.toNatClampNeg)).toInt ≤ (7 : Int); omega)).to ?_
              rintro _ m7 ⟨w_m7, g13, v8, rfl, p14, p15⟩
              have f_m7 : Fx (RS [2, 5, 14]) m0 m7 := f.tr g13 (RS_sub rfl)
              refine ⟨v8, rfl, ?_⟩
              obtain ⟨r9, e16, q17⟩ := w_m7.r09
              refine ⟨r9, e16, Pl_of q17, ?_⟩
              refine ⟨?_, ?_⟩
              · exact vpi (by omega) (by omega)
              · refine ⟨r9, e16, Pl_of q17, ?_⟩
                refine ⟨?_, ?_⟩
                · exact vpi (by omega) (by omega)
                · have r18 := w_m7.plj (j := 1) (k := x5.toNatClampNeg) q17 rfl rfl
                  have r19 := w_m7.plj (j := 2) (k := x5.toNatClampNeg) q17 rfl rfl
                  refine (s_X1_settle w_m7 SS_26 (by show (0 : Int) ≤ ((m7.1 (r9 + 1) x5.toNatClampNeg)).toInt; omega) (by show ((m7.1 (r9 + 1) x5.toNatClampNeg)).toInt ≤ (7 : Int); omega) (by show (0 : Int) ≤ ((m7.1 (r9 + 2) x5.toNatClampNeg)).toInt; omega) (by show ((m7.1 (r9 + 2) x5.toNatClampNeg)).toInt ≤ (7 : Int); omega)).to ?_
                  rintro _ m11 ⟨w_m11, g20, rfl⟩
                  have f_m11 : Fx (RS [2, 5, 14]) m0 m11 := f_m7.tr g20 (RS_sub rfl)
                  refine ⟨rfl, ?_⟩
                  have t21 := ti_addc (x := x5) (y := (1 : Int32)) (c := 1) rfl (by omega)
                  exact ih.2 _ _ _ _ _ _ w_m11 f_m11 (by show (0 : Int) ≤ (x1).toInt; omega) (by show (x1).toInt ≤ (50 : Int); omega) (by show (0 : Int) ≤ (x3).toInt; omega) (by show (x3).toInt ≤ (49 : Int); omega) (by show (0 : Int) ≤ (x4).toInt; omega) (by show (x4).toInt ≤ (48 : Int); omega) (by show (0 : Int) ≤ ((x5 + (1 : Int32))).toInt; omega) (by show ((x5 + (1 : Int32))).toInt ≤ (48 : Int); omega) (by show (50 - (x3).toInt) * 100 + 48 - ((x5 + (1 : Int32))).toInt < _; omega)
set_option maxHeartbeats 4000000 in
theorem s_X11_playAhead {ad : Nat → Nat} {d : Nat} {m : Wm} {x1 : Int32} (w : WT m) (i1 : (0 : Int) ≤ x1.toInt) (i2 : x1.toInt ≤ (50 : Int)) : Ct ad μX11_playAhead (d + 5) [.ref (ad 0), .int x1] m (fun r m' => WT m' ∧ Fx (RS [2, 5, 14]) m m' ∧ r = none) := by
  have f : Fx (RS [2, 5, 14]) m m := Fx.rf
  refine v_X11_playAhead  ?_
  refine (s_X8_copy w SS_26 SS_21).to ?_
  rintro _ m1 ⟨w_m1, g1, rfl⟩
  have f_m1 : Fx (RS [2, 5, 14]) m m1 := f.tr g1 (RS_sub rfl)
  refine ⟨rfl, ?_⟩
  exact (l_X11_playAhead (m0 := m) 1000000).1 _ _ _ _ w_m1 f_m1 (by show (0 : Int) ≤ (x1).toInt; omega) (by show (x1).toInt ≤ (50 : Int); omega) (by show (0 : Int) ≤ (0 : Int); omega) (by show (0 : Int) ≤ (50 : Int); omega) (by show (50 - (0 : Int)) * 100 + 60 < _; omega)
set_option maxHeartbeats 4000000 in
theorem s_X11_pays {ad : Nat → Nat} {d : Nat} {m : Wm} {x1 x2 : Int32} (w : WT m) : Ct ad μX11_pays (d + 6) [.ref (ad 0), .int x1, .int x2] m (fun r m' => WT m' ∧ Fx (RS [2, 5, 9, 14, 42]) m m' ∧ ∃ v : Int32, r = some (.int v)) := by
  have f : Fx (RS [2, 5, 9, 14, 42]) m m := Fx.rf
  refine v_X11_pays  ?_
  refine (s_X1_has w).to ?_
  rintro _ m1 ⟨w_m1, g1, v2, rfl, p3, p4, p2⟩
  have f_m1 : Fx (RS [2, 5, 9, 14, 42]) m m1 := f.tr g1 (RS_sub rfl)
  have p5 : (v2.toInt = 0 ∧ ((x1).toInt < 0 ∨ ((m.1 3 3)).toInt ≤ (x1).toInt)) ∨ (v2.toInt = 1 ∧ 0 ≤ (x1).toInt ∧ (x1).toInt < ((m.1 3 3)).toInt ∧ (x1).toInt ≤ 7) := p2
  clear p2
  refine ⟨v2, rfl, ?_⟩
  refine ⟨?_, ?_⟩
  · intro c6
    have k7 := y_eqr (n := 0) rfl c6
    exact ⟨w_m1, f_m1, _, rfl⟩
  · intro c8
    have k9 := y_ner (n := 0) rfl c8
    refine ⟨?_, ?_⟩
    · intro c10
      have k11 := y_ltr (n := 0) rfl c10
      exact ⟨w_m1, f_m1, _, rfl⟩
    · intro c12
      have k13 := y_nltr (n := 0) rfl c12
      refine ⟨?_, ?_⟩
      · intro c14
        have k15 := y_ltl (n := 50) rfl c14
        exact ⟨w_m1, f_m1, _, rfl⟩
      · intro c16
        have k17 := y_nltl (n := 50) rfl c16
        obtain ⟨r3, e18, q19⟩ := w_m1.r09
        refine ⟨r3, e18, Pl_of q19, ?_⟩
        refine ⟨?_, ?_⟩
        · intro c20
          have r21 := w_m1.pl (k := 5) q19 rfl rfl
          have k22 := y_ner (n := 0) rfl c20
          refine (s_X11_playAhead w_m1 (by show (0 : Int) ≤ (x2).toInt; omega) (by show (x2).toInt ≤ (50 : Int); omega)).to ?_
          rintro _ m4 ⟨w_m4, g23, rfl⟩
          have f_m4 : Fx (RS [2, 5, 9, 14, 42]) m m4 := f_m1.tr g23 (RS_sub rfl)
          refine ⟨rfl, ?_⟩
          refine ⟨?_, ?_⟩
          · exact vpi (by omega) (by omega)
          · have w24 : WT (uI m4 3 5 ((m4.1 3 5) ^^^ ((1 : Int32) <<< (x1 &&& 31)))) := w_m4.n rfl
            have f24 : Fx (RS [2, 5, 9, 14, 42]) m (uI m4 3 5 ((m4.1 3 5) ^^^ ((1 : Int32) <<< (x1 &&& 31)))) := f_m4.i rfl
            refine (s_X11_playAhead w24 (by show (0 : Int) ≤ (x2).toInt; omega) (by show (x2).toInt ≤ (50 : Int); omega)).to ?_
            rintro _ m5 ⟨w_m5, g25, rfl⟩
            have f_m5 : Fx (RS [2, 5, 9, 14, 42]) m m5 := f24.tr g25 (RS_sub rfl)
            refine ⟨rfl, ?_⟩
            refine ⟨?_, ?_⟩
            · exact vpi (by omega) (by omega)
            · have w26 : WT (uI m5 3 5 ((m5.1 3 5) ^^^ ((1 : Int32) <<< (x1 &&& 31)))) := w_m5.n rfl
              have f26 : Fx (RS [2, 5, 9, 14, 42]) m (uI m5 3 5 ((m5.1 3 5) ^^^ ((1 : Int32) <<< (x1 &&& 31)))) := f_m5.i rfl
              refine (s_X11_tell_ w26).to ?_
              rintro _ m6 ⟨w_m6, g27, rfl⟩
              have f_m6 : Fx (RS [2, 5, 9, 14, 42]) m m6 := f26.tr g27 (RS_sub rfl)
              refine ⟨rfl, ?_⟩
              refine ⟨?_, ?_⟩
              · exact vpi (by omega) (by omega)
              · exact ⟨w_m6, f_m6, _, rfl⟩
        · intro c28
          have r29 := w_m1.pl (k := 5) q19 rfl rfl
          have k30 := y_eqr (n := 0) rfl c28
          exact ⟨w_m1, f_m1, _, rfl⟩
set_option maxHeartbeats 4000000 in
theorem l_X11_laws {ad : Nat → Nat} {d : Nat} {m0 : Wm}  : ∀ n : Nat, (∀ (m : Wm) (x1 x2 x3 x4 : Int32), WT m → Fx (RS [2, 5, 9, 14, 43]) m0 m → (0 : Int) ≤ x1.toInt → x1.toInt ≤ (50 : Int) → (0 : Int) ≤ x3.toInt → x3.toInt ≤ (3 : Int) → (0 : Int) ≤ x4.toInt → x4.toInt ≤ (4 : Int) → 4 - x4.toInt < (n : Int) → AW ad E0 μX11_laws (d + 6) (fun r m' => WT m' ∧ Fx (RS [2, 5, 9, 14, 43]) m0 m' ∧ ∃ v : Int32, r = some (.int v)) 37 [(0, .ref (ad 0)), (1, .int x1), (2, .int x2), (3, .int x3), (4, .int x4)] [] m) := by
  intro n
  induction n with
  | zero =>
    intros
    exfalso
    omega
  | succ n ih =>
    intro m x1 x2 x3 x4 w f j1 j2 j3 j4 j5 j6 hn
    refine g_X11_laws_37  ?_
    refine ⟨?_, ?_⟩
    · intro c1
      have k2 := y_lel (n := 4) rfl c1
      have w3 : WT (uI m 4 ((0 : Int32).toNatClampNeg) x2) := w.n rfl
      have f3 : Fx (RS [2, 5, 9, 14, 43]) m0 (uI m 4 ((0 : Int32).toNatClampNeg) x2) := f.i rfl
      have w4 : WT (uI (uI m 4 ((0 : Int32).toNatClampNeg) x2) 0 18 (4 : Int32)) := w3.t rfl (by show (0 : Int) ≤ (4 : Int); omega) (by show (4 : Int) ≤ 10; omega)
      have f4 : Fx (RS [2, 5, 9, 14, 43]) m0 (uI (uI m 4 ((0 : Int32).toNatClampNeg) x2) 0 18 (4 : Int32)) := f3.i rfl
      exact ⟨w4, f4, _, rfl⟩
    · intro c5
      have k6 := y_nlel (n := 4) rfl c5
      have w7 : WT (uI m 4 ((0 : Int32).toNatClampNeg) x4) := w.n rfl
      have f7 : Fx (RS [2, 5, 9, 14, 43]) m0 (uI m 4 ((0 : Int32).toNatClampNeg) x4) := f.i rfl
      refine (s_X11_playAhead w7 (by show (0 : Int) ≤ (x1).toInt; omega) (by show (x1).toInt ≤ (50 : Int); omega)).to ?_
      rintro _ m1 ⟨w_m1, g8, rfl⟩
      have f_m1 : Fx (RS [2, 5, 9, 14, 43]) m0 m1 := f7.tr g8 (RS_sub rfl)
      refine ⟨rfl, ?_⟩
      refine (s_X1_total w_m1 SS_26).to ?_
      rintro _ m2 ⟨w_m2, g9, v3, rfl⟩
      have f_m2 : Fx (RS [2, 5, 9, 14, 43]) m0 m2 := f_m1.tr g9 (RS_sub rfl)
      refine ⟨v3, rfl, ?_⟩
      refine ⟨?_, ?_⟩
      · exact vpi (by omega) (by omega)
      · refine ⟨?_, ?_⟩
        · exact vpi (by omega) (by omega)
        · refine ⟨?_, ?_⟩
          · exact vpi (by omega) (by omega)
          · refine ⟨?_, ?_⟩
            · intro c10
              have w11 : WT (uL m2 150 x4.toNatClampNeg v3.toInt64) := w_m2.l
              have f11 : Fx (RS [2, 5, 9, 14, 43]) m0 (uL m2 150 x4.toNatClampNeg v3.toInt64) := f_m2.l rfl
              have t12 := ti_addc (x := x4) (y := (1 : Int32)) (c := 1) rfl (by omega)
              exact ih _ _ _ _ _ w11 f11 (by show (0 : Int) ≤ (x1).toInt; omega) (by show (x1).toInt ≤ (50 : Int); omega) (by show (0 : Int) ≤ (x3).toInt; omega) (by show (x3).toInt ≤ (3 : Int); omega) (by show (0 : Int) ≤ ((x4 + (1 : Int32))).toInt; omega) (by show ((x4 + (1 : Int32))).toInt ≤ (4 : Int); omega) (by show 4 - ((x4 + (1 : Int32))).toInt < _; omega)
            · intro c13
              have w14 : WT (uL m2 150 x4.toNatClampNeg v3.toInt64) := w_m2.l
              have f14 : Fx (RS [2, 5, 9, 14, 43]) m0 (uL m2 150 x4.toNatClampNeg v3.toInt64) := f_m2.l rfl
              have t15 := ti_addc (x := x4) (y := (1 : Int32)) (c := 1) rfl (by omega)
              exact ih _ _ _ _ _ w14 f14 (by show (0 : Int) ≤ (x1).toInt; omega) (by show (x1).toInt ≤ (50 : Int); omega) (by show (0 : Int) ≤ (x4).toInt; omega) (by show (x4).toInt ≤ (3 : Int); omega) (by show (0 : Int) ≤ ((x4 + (1 : Int32))).toInt; omega) (by show ((x4 + (1 : Int32))).toInt ≤ (4 : Int); omega) (by show 4 - ((x4 + (1 : Int32))).toInt < _; omega)
set_option maxHeartbeats 4000000 in
theorem s_X11_laws {ad : Nat → Nat} {d : Nat} {m : Wm} {x1 : Int32} (w : WT m) : Ct ad μX11_laws (d + 6) [.ref (ad 0), .int x1] m (fun r m' => WT m' ∧ Fx (RS [2, 5, 9, 14, 43]) m m' ∧ ∃ v : Int32, r = some (.int v)) := by
  have f : Fx (RS [2, 5, 9, 14, 43]) m m := Fx.rf
  refine v_X11_laws  ?_
  refine ⟨?_, ?_⟩
  · intro c1
    have k2 := y_ltr (n := 0) rfl c1
    exact ⟨w, f, _, rfl⟩
  · intro c3
    have k4 := y_nltr (n := 0) rfl c3
    refine ⟨?_, ?_⟩
    · intro c5
      have k6 := y_ltl (n := 50) rfl c5
      exact ⟨w, f, _, rfl⟩
    · intro c7
      have k8 := y_nltl (n := 50) rfl c7
      obtain ⟨r1, e9, q10⟩ := w.r09
      refine ⟨r1, e9, Pl_of q10, ?_⟩
      refine ⟨?_, ?_⟩
      · intro c11
        have r12 := w.pl (k := 5) q10 rfl rfl
        have k13 := y_ner (n := 0) rfl c11
        exact (l_X11_laws (m0 := m) 1000000) _ _ _ _ _ w f (by show (0 : Int) ≤ (x1).toInt; omega) (by show (x1).toInt ≤ (50 : Int); omega) (by show (0 : Int) ≤ (0 : Int); omega) (by show (0 : Int) ≤ (3 : Int); omega) (by show (0 : Int) ≤ (0 : Int); omega) (by show (0 : Int) ≤ (4 : Int); omega) (by show 4 - (0 : Int) < _; omega)
      · intro c14
        have r15 := w.pl (k := 5) q10 rfl rfl
        have k16 := y_eqr (n := 0) rfl c14
        exact ⟨w, f, _, rfl⟩
set_option maxHeartbeats 4000000 in
theorem s_X11_seed {ad : Nat → Nat} {d : Nat} {m : Wm} {x1 : Int32} (w : WT m) : Ct ad μX11_seed d [.ref (ad 0), .int x1] m (fun r m' => WT m' ∧ Fx (RS [4]) m m' ∧ ∃ v : Int32, r = some (.int v)) := by
  have f : Fx (RS [4]) m m := Fx.rf
  refine v_X11_seed  ?_
  have w1 : WT (uI m 21 4 x1) := w.n rfl
  have f1 : Fx (RS [4]) m (uI m 21 4 x1) := f.i rfl
  exact ⟨w1, f1, _, rfl⟩
set_option maxHeartbeats 4000000 in
theorem s_X11_keep {ad : Nat → Nat} {d : Nat} {m : Wm} {x1 : Int32} (w : WT m) : Ct ad μX11_keep (d + 3) [.ref (ad 0), .int x1] m (fun r m' => WT m' ∧ Fx (RS [13]) m m' ∧ ∃ v : Int32, r = some (.int v) ∧ (0 : Int) ≤ v.toInt ∧ v.toInt ≤ 1 ∧ ((v.toInt = 1 ∧ 0 ≤ x1.toInt ∧ x1.toInt < 2) ∨ (v.toInt = 0 ∧ (x1.toInt < 0 ∨ 2 ≤ x1.toInt)))) := by
  have f : Fx (RS [13]) m m := Fx.rf
  refine v_X11_keep  ?_
  refine ⟨?_, ?_⟩
  · intro c1
    have k2 := y_ltr (n := 0) rfl c1
    exact ⟨w, f, _, rfl, (by show (0 : Int) ≤ (0 : Int); omega), (by show (0 : Int) ≤ (1 : Int); omega), (by show ((0 : Int) = 1 ∧ 0 ≤ x1.toInt ∧ x1.toInt < 2) ∨ ((0 : Int) = 0 ∧ (x1.toInt < 0 ∨ 2 ≤ x1.toInt)); omega)⟩
  · intro c3
    have k4 := y_nltr (n := 0) rfl c3
    refine ⟨?_, ?_⟩
    · intro c5
      have k6 := y_ltr (n := 2) rfl c5
      refine ⟨?_, ?_⟩
      · exact vpi (by omega) (by omega)
      · obtain ⟨r1, e7, q8⟩ := w.keep (x := x1) (by omega) (by omega)
        refine ⟨r1, e7, Ke_of q8, ?_⟩
        refine (s_X0_store w q8).to ?_
        rintro _ m2 ⟨w_m2, g9, rfl⟩
        have f_m2 : Fx (RS [13]) m m2 := f.tr g9 (RS_sub rfl)
        refine ⟨rfl, ?_⟩
        exact ⟨w_m2, f_m2, _, rfl, (by show (0 : Int) ≤ (1 : Int); omega), (by show (1 : Int) ≤ (1 : Int); omega), (by show ((1 : Int) = 1 ∧ 0 ≤ x1.toInt ∧ x1.toInt < 2) ∨ ((1 : Int) = 0 ∧ (x1.toInt < 0 ∨ 2 ≤ x1.toInt)); omega)⟩
    · intro c10
      have k11 := y_nltr (n := 2) rfl c10
      exact ⟨w, f, _, rfl, (by show (0 : Int) ≤ (0 : Int); omega), (by show (0 : Int) ≤ (1 : Int); omega), (by show ((0 : Int) = 1 ∧ 0 ≤ x1.toInt ∧ x1.toInt < 2) ∨ ((0 : Int) = 0 ∧ (x1.toInt < 0 ∨ 2 ≤ x1.toInt)); omega)⟩
set_option maxHeartbeats 4000000 in
theorem l_X11_again {ad : Nat → Nat} {d : Nat} {m0 : Wm}  : ∀ n : Nat, (∀ (m : Wm) (s0 : Int32), WT m → Fx (RS [4, 42, 43, 44, 53]) m0 m → 0 * s0.toInt < (n : Int) → AW ad E0 μX11_again (d + 3) (fun r m' => WT m' ∧ Fx (RS [4, 42, 43, 44, 53]) m0 m' ∧ ∃ v : Int32, r = some (.int v) ∧ (0 : Int) ≤ v.toInt ∧ v.toInt ≤ 1) 76 [(0, .ref (ad 0))] [.int s0, .ref (ad 0)] m) := by
  intro n
  induction n with
  | zero =>
    intros
    exfalso
    omega
  | succ n ih =>
    intro m s0 w f  hn
    refine g_X11_again_76  ?_
    have w1 : WT (uI m 0 11 s0) := w.n rfl
    have f1 : Fx (RS [4, 42, 43, 44, 53]) m0 (uI m 0 11 s0) := f.i rfl
    have w2 : WT (uI (uI m 0 11 s0) 31 1 (0 : Int32)) := w1.t rfl (by show (0 : Int) ≤ (0 : Int); omega) (by show (0 : Int) ≤ 20; omega)
    have f2 : Fx (RS [4, 42, 43, 44, 53]) m0 (uI (uI m 0 11 s0) 31 1 (0 : Int32)) := f1.i rfl
    exact ⟨w2, f2, _, rfl, (by show (0 : Int) ≤ (1 : Int); omega), (by show (1 : Int) ≤ (1 : Int); omega)⟩
set_option maxHeartbeats 4000000 in
theorem s_X11_again {ad : Nat → Nat} {d : Nat} {m : Wm} {x1 : Int32} (w : WT m) : Ct ad μX11_again (d + 3) [.ref (ad 0), .int x1] m (fun r m' => WT m' ∧ Fx (RS [4, 42, 43, 44, 53]) m m' ∧ ∃ v : Int32, r = some (.int v) ∧ (0 : Int) ≤ v.toInt ∧ v.toInt ≤ 1) := by
  have f : Fx (RS [4, 42, 43, 44, 53]) m m := Fx.rf
  refine v_X11_again  ?_
  refine ⟨?_, ?_⟩
  · intro c1
    have k2 := y_ltr (n := 0) rfl c1
    exact ⟨w, f, _, rfl, (by show (0 : Int) ≤ (0 : Int); omega), (by show (0 : Int) ≤ (1 : Int); omega)⟩
  · intro c3
    have k4 := y_nltr (n := 0) rfl c3
    refine ⟨?_, ?_⟩
    · intro c5
      have k6 := y_lel (n := 2) rfl c5
      exact ⟨w, f, _, rfl, (by show (0 : Int) ≤ (0 : Int); omega), (by show (0 : Int) ≤ (1 : Int); omega)⟩
    · intro c7
      have k8 := y_nlel (n := 2) rfl c7
      refine ⟨?_, ?_⟩
      · exact vpi (by omega) (by omega)
      · obtain ⟨r1, e9, q10⟩ := w.keep (x := x1) (by omega) (by omega)
        refine ⟨r1, e9, Ke_of q10, ?_⟩
        refine ⟨?_, ?_⟩
        · intro c11
          have k12 := y_ner (n := 0) rfl c11
          refine ⟨?_, ?_⟩
          · exact vpi (by omega) (by omega)
          · refine ⟨r1, e9, Ke_of q10, ?_⟩
            refine (s_X0_restore w q10).to ?_
            rintro _ m3 ⟨w_m3, g13, rfl⟩
            have f_m3 : Fx (RS [4, 42, 43, 44, 53]) m m3 := f.tr g13 (RS_sub rfl)
            refine ⟨rfl, ?_⟩
            obtain ⟨r4, e14, q15⟩ := w_m3.r09
            refine ⟨r4, e14, Pl_of q15, ?_⟩
            refine ⟨?_, ?_⟩
            · intro c16
              have r17 := w_m3.pl (k := 5) q15 rfl rfl
              have k18 := y_ler (n := 0) rfl c16
              exact (l_X11_again (m0 := m) 1000000) _ _ w_m3 f_m3 (by show 0 * (0 : Int) < _; omega)
            · intro c19
              have r20 := w_m3.pl (k := 5) q15 rfl rfl
              have k21 := y_nler (n := 0) rfl c19
              refine ⟨?_, ?_⟩
              · exact vpi (by omega) (by omega)
              · obtain ⟨r5, e22, q23⟩ := w_m3.keep (x := x1) (by omega) (by omega)
                refine ⟨r5, e22, Ke_of q23, ?_⟩
                refine ⟨r4, e14, Pl_of q15, ?_⟩
                refine ⟨?_, ?_⟩
                · first | assumption | (show ¬ (m3.1 r4 5) = (0 : Int32); exact y_nn (n := 0) rfl (by omega))
                · exact (l_X11_again (m0 := m) 1000000) _ _ w_m3 f_m3 (by show 0 * (((m3.1 r5 3) - (((m3.1 r5 3) / (m3.1 r4 5)) * (m3.1 r4 5)))).toInt < _; omega)
        · intro c24
          have k25 := y_eqr (n := 0) rfl c24
          exact ⟨w, f, _, rfl, (by show (0 : Int) ≤ (0 : Int); omega), (by show (0 : Int) ≤ (1 : Int); omega)⟩
set_option maxHeartbeats 4000000 in
theorem s_X11_count {ad : Nat → Nat} {d : Nat} {m : Wm} {x1 : Int32} (w : WT m) : Ct ad μX11_count d [.ref (ad 0), .int x1] m (fun r m' => WT m' ∧ Fx (RS []) m m' ∧ ∃ v : Int32, r = some (.int v)) := by
  have f : Fx (RS []) m m := Fx.rf
  refine v_X11_count  ?_
  refine ⟨?_, ?_, ?_, ?_, ?_, ?_, ?_, ?_, ?_, ?_⟩
  · intro c1
    have k2 := y_eqr (n := 0) rfl c1
    have r3 := w.at (a := 3) (k := 3) rfl
    exact ⟨w, f, _, rfl⟩
  · intro c4
    have k5 := y_eqr (n := 1) rfl c4
    have r6 := w.at (a := 3) (k := 4) rfl
    exact ⟨w, f, _, rfl⟩
  · intro c7
    have k8 := y_eqr (n := 2) rfl c7
    obtain ⟨r1, e9, q10⟩ := w.r09
    refine ⟨r1, e9, Pl_of q10, ?_⟩
    have r11 := w.pl (k := 5) q10 rfl rfl
    exact ⟨w, f, _, rfl⟩
  · intro c12
    have k13 := y_eqr (n := 3) rfl c12
    exact ⟨w, f, _, rfl⟩
  · intro c14
    have k15 := y_eqr (n := 4) rfl c14
    have r16 := w.at (a := 31) (k := 1) rfl
    exact ⟨w, f, _, rfl⟩
  · intro c17
    have k18 := y_eqr (n := 5) rfl c17
    have r19 := w.at (a := 0) (k := 15) rfl
    exact ⟨w, f, _, rfl⟩
  · intro c20
    have k21 := y_eqr (n := 6) rfl c20
    have r22 := w.at (a := 0) (k := 18) rfl
    exact ⟨w, f, _, rfl⟩
  · intro c23
    have k24 := y_eqr (n := 7) rfl c23
    have r25 := w.at (a := 1) (k := 1) rfl
    exact ⟨w, f, _, rfl⟩
  · intro c26
    have k27 := y_eqr (n := 8) rfl c26
    obtain ⟨r2, e28, q29⟩ := w.r09
    refine ⟨r2, e28, Pl_of q29, ?_⟩
    have r30 := w.pl (k := 6) q29 rfl rfl
    exact ⟨w, f, _, rfl⟩
  · intro c31
    have k32 := y_ner (n := 0) rfl c31
    intro c33
    have k34 := y_ner (n := 1) rfl c33
    intro c35
    have k36 := y_ner (n := 2) rfl c35
    intro c37
    have k38 := y_ner (n := 3) rfl c37
    intro c39
    have k40 := y_ner (n := 4) rfl c39
    intro c41
    have k42 := y_ner (n := 5) rfl c41
    intro c43
    have k44 := y_ner (n := 6) rfl c43
    intro c45
    have k46 := y_ner (n := 7) rfl c45
    intro c47
    have k48 := y_ner (n := 8) rfl c47
    exact ⟨w, f, _, rfl⟩
