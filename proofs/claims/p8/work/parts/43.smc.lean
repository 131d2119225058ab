section
/-! SAFETY OF THE MODEL, BY PROGRAM (remember .. master) -/
set_option maxHeartbeats 4000000 in
theorem l_X12_remember {ad : Nat → Nat} {d : Nat} {m0 : Wm}  : ∀ n : Nat, (∀ (m : Wm) (x1 : Int32), WT m → Fx (RS [29]) m0 m → (0 : Int) ≤ x1.toInt → x1.toInt ≤ (1083 : Int) → ((m.1 187 30).toInt = 20) → 1083 - x1.toInt + 1 < (n : Int) → AW ad E0 μX12_remember (d + 1) (fun r m' => WT m' ∧ Fx (RS [29]) m0 m' ∧ r = none) 11 [(0, .ref (ad 187)), (1, .int x1)] [] m) ∧ (∀ (m : Wm), WT m → Fx (RS [29]) m0 m → ((m.1 187 30).toInt ≤ 19) → 0 * (m.1 187 30).toInt < (n : Int) → AW ad E0 μX12_remember (d + 1) (fun r m' => WT m' ∧ Fx (RS [29]) m0 m' ∧ r = none) 49 [(0, .ref (ad 187))] [] m) := by
  intro n
  induction n with
  | zero =>
    refine ⟨?_, ?_⟩ <;> intros <;> exfalso <;> omega
  | succ n ih =>
    refine ⟨?_, ?_⟩
    · intro m x1 w f j1 j2 j3 hn
      refine g_X12_remember_11  ?_
      refine ⟨?_, ?_⟩
      · intro c1
        have k2 := y_lel (n := 1083) rfl c1
        have r4 := w.at (a := 187) (k := 30) rfl
        have t5 := ti_subc (x := (m.1 187 30)) (y := (1 : Int32)) (c := 1) rfl (by omega)
        have w3 : WT (uI m 187 30 ((m.1 187 30) - (1 : Int32))) := w.t rfl (by show (0 : Int) ≤ (((m.1 187 30) - (1 : Int32))).toInt; omega) (by show (((m.1 187 30) - (1 : Int32))).toInt ≤ 20; omega)
        have f3 : Fx (RS [29]) m0 (uI m 187 30 ((m.1 187 30) - (1 : Int32))) := f.i rfl
        exact ih.2 _ w3 f3 (by show (((m.1 187 30) - (1 : Int32))).toInt ≤ 19; omega) (by show 0 * (((m.1 187 30) - (1 : Int32))).toInt < _; omega)
      · intro c6
        have k7 := y_nlel (n := 1083) rfl c6
        refine ⟨?_, ?_⟩
        · have t8 := ti_addc (x := x1) (y := (57 : Int32)) (c := 57) rfl (by omega)
          exact vpi (by omega) (by omega)
        · refine ⟨?_, ?_⟩
          · exact vpi (by omega) (by omega)
          · have w9 : WT (uI m 201 x1.toNatClampNeg (m.1 201 ((x1 + (57 : Int32)).toNatClampNeg))) := w.n rfl
            have f9 : Fx (RS [29]) m0 (uI m 201 x1.toNatClampNeg (m.1 201 ((x1 + (57 : Int32)).toNatClampNeg))) := f.i rfl
            have t10 := ti_addc (x := x1) (y := (1 : Int32)) (c := 1) rfl (by omega)
            have r11 := w.at (a := 187) (k := 30) rfl
            exact ih.1 _ _ w9 f9 (by show (0 : Int) ≤ ((x1 + (1 : Int32))).toInt; omega) (by show ((x1 + (1 : Int32))).toInt ≤ (1083 : Int); omega) (by show ((m.1 187 30)).toInt = 20; omega) (by show 1083 - ((x1 + (1 : Int32))).toInt + 1 < _; omega)
    · intro m  w f j1 hn
      refine g_X12_remember_49  ?_
      have r1 := w.at (a := 187) (k := 30) rfl
      have t2 := ti_mulc (c := 57) (y := (57 : Int32)) (x := (m.1 187 30)) rfl (by omega)
      refine (s_X12_lay_201 w (by show (0 : Int) ≤ (((57 : Int32) * (m.1 187 30))).toInt; omega) (by show (((57 : Int32) * (m.1 187 30))).toInt ≤ (1083 : Int); omega)).to ?_
      rintro _ m1 ⟨w_m1, g3, rfl, p4⟩
      have f_m1 : Fx (RS [29]) m0 m1 := f.tr g3 (RS_sub rfl)
      have p5 : (m1.1 187 30).toInt = ((m.1 187 30)).toInt := p4
      clear p4
      have e6 : (m1.1 187 1).toInt = ((m.1 187 1)).toInt := congrArg _ (g3.at (a := 187) (k := 1) (by decide))
      have e7 : (m1.1 187 0).toInt = ((m.1 187 0)).toInt := congrArg _ (g3.at (a := 187) (k := 0) (by decide))
      refine ⟨rfl, ?_⟩
      have r9 := w_m1.at (a := 187) (k := 30) rfl
      have t10 := ti_addc (x := (m1.1 187 30)) (y := (1 : Int32)) (c := 1) rfl (by omega)
      have w8 : WT (uI m1 187 30 ((m1.1 187 30) + (1 : Int32))) := w_m1.t rfl (by show (0 : Int) ≤ (((m1.1 187 30) + (1 : Int32))).toInt; omega) (by show (((m1.1 187 30) + (1 : Int32))).toInt ≤ 20; omega)
      have f8 : Fx (RS [29]) m0 (uI m1 187 30 ((m1.1 187 30) + (1 : Int32))) := f_m1.i rfl
      exact ⟨w8, f8, rfl⟩
set_option maxHeartbeats 4000000 in
theorem s_X12_remember {ad : Nat → Nat} {d : Nat} {m : Wm} (w : WT m) : Ct ad μX12_remember (d + 1) [.ref (ad 187)] m (fun r m' => WT m' ∧ Fx (RS [29]) m m' ∧ r = none) := by
  have f : Fx (RS [29]) m m := Fx.rf
  refine v_X12_remember  ?_
  refine ⟨?_, ?_⟩
  · intro c1
    have r2 := w.at (a := 187) (k := 30) rfl
    have k3 := y_ner (n := 20) rfl c1
    exact (l_X12_remember (m0 := m) 1000000).2 _ w f (by show ((m.1 187 30)).toInt ≤ 19; omega) (by show 0 * ((m.1 187 30)).toInt < _; omega)
  · intro c4
    have r5 := w.at (a := 187) (k := 30) rfl
    have k6 := y_eqr (n := 20) rfl c4
    exact (l_X12_remember (m0 := m) 1000000).1 _ _ w f (by show (0 : Int) ≤ (0 : Int); omega) (by show (0 : Int) ≤ (1083 : Int); omega) (by show ((m.1 187 30)).toInt = 20; omega) (by show 1083 - (0 : Int) + 1 < _; omega)
set_option maxHeartbeats 4000000 in
theorem s_X12_play {ad : Nat → Nat} {d : Nat} {m : Wm} {x1 x2 x3 : Int32} (w : WT m) : Ct ad μX12_play (d + 171) [.ref (ad 187), .int x1, .int x2, .int x3] m (fun r m' => WT m' ∧ Fx (RS [20, 22, 24, 26, 28, 29, 49]) m m' ∧ ∃ v : Int32, r = some (.int v)) := by
  have f : Fx (RS [20, 22, 24, 26, 28, 29, 49]) m m := Fx.rf
  refine v_X12_play  ?_
  have w1 : WT (uI m 187 17 (0 : Int32)) := w.n rfl
  have f1 : Fx (RS [20, 22, 24, 26, 28, 29, 49]) m (uI m 187 17 (0 : Int32)) := f.i rfl
  refine (s_X12_areTwo w1).to ?_
  rintro _ m1 ⟨w_m1, g2, v2, rfl, p4, p5, p3⟩
  have f_m1 : Fx (RS [20, 22, 24, 26, 28, 29, 49]) m m1 := f1.tr g2 (RS_sub rfl)
  have p6 : (v2.toInt = 0 ∧ ((x1).toInt < 0 ∨ ((m.1 187 1)).toInt ≤ (x1).toInt ∨ (x2).toInt < 0 ∨ ((m.1 187 1)).toInt ≤ (x2).toInt ∨ (x1).toInt = (x2).toInt)) ∨ (v2.toInt = 1 ∧ 0 ≤ (x1).toInt ∧ (x1).toInt < ((m.1 187 1)).toInt ∧ 0 ≤ (x2).toInt ∧ (x2).toInt < ((m.1 187 1)).toInt ∧ (x1).toInt ≠ (x2).toInt) := p3
  clear p3
  have e7 : (m1.1 187 16).toInt = ((m.1 187 16)).toInt := congrArg _ (g2.at (a := 187) (k := 16) (by decide))
  have e8 : (m1.1 187 1).toInt = ((m.1 187 1)).toInt := congrArg _ (g2.at (a := 187) (k := 1) (by decide))
  have e9 : (m1.1 187 0).toInt = ((m.1 187 0)).toInt := congrArg _ (g2.at (a := 187) (k := 0) (by decide))
  refine ⟨v2, rfl, ?_⟩
  refine ⟨?_, ?_⟩
  · intro c10
    have k11 := y_eqr (n := 0) rfl c10
    exact ⟨w_m1, f_m1, _, rfl⟩
  · intro c12
    have k13 := y_ner (n := 0) rfl c12
    have r14 := w.at (a := 187) (k := 1) rfl
    refine (s_X12_isThrown w_m1).to ?_
    rintro _ m3 ⟨w_m3, g15, v4, rfl, p16, p17⟩
    have f_m3 : Fx (RS [20, 22, 24, 26, 28, 29, 49]) m m3 := f_m1.tr g15 (RS_sub rfl)
    have e18 : (m3.1 187 16).toInt = ((m1.1 187 16)).toInt := congrArg _ (g15.at (a := 187) (k := 16) (by decide))
    have e19 : (m3.1 187 1).toInt = ((m1.1 187 1)).toInt := congrArg _ (g15.at (a := 187) (k := 1) (by decide))
    have e20 : (m3.1 187 0).toInt = ((m1.1 187 0)).toInt := congrArg _ (g15.at (a := 187) (k := 0) (by decide))
    refine ⟨v4, rfl, ?_⟩
    refine ⟨?_, ?_⟩
    · intro c21
      have k22 := y_ner (n := 0) rfl c21
      refine (s_X12_remember w_m3).to ?_
      rintro _ m5 ⟨w_m5, g23, rfl⟩
      have f_m5 : Fx (RS [20, 22, 24, 26, 28, 29, 49]) m m5 := f_m3.tr g23 (RS_sub rfl)
      have e24 : (m5.1 187 16).toInt = ((m3.1 187 16)).toInt := congrArg _ (g23.at (a := 187) (k := 16) (by decide))
      have e25 : (m5.1 187 1).toInt = ((m3.1 187 1)).toInt := congrArg _ (g23.at (a := 187) (k := 1) (by decide))
      have e26 : (m5.1 187 0).toInt = ((m3.1 187 0)).toInt := congrArg _ (g23.at (a := 187) (k := 0) (by decide))
      refine ⟨rfl, ?_⟩
      refine (s_X12_goGame w_m5 (by show (0 : Int) ≤ (x1).toInt; omega) (by show (x1).toInt ≤ (7 : Int); omega) (by show (0 : Int) ≤ (x2).toInt; omega) (by show (x2).toInt ≤ (7 : Int); omega)).to ?_
      rintro _ m6 ⟨w_m6, g27, v7, rfl, p28, p29⟩
      have f_m6 : Fx (RS [20, 22, 24, 26, 28, 29, 49]) m m6 := f_m5.tr g27 (RS_sub rfl)
      have e30 : (m6.1 187 16).toInt = ((m5.1 187 16)).toInt := congrArg _ (g27.at (a := 187) (k := 16) (by decide))
      have e31 : (m6.1 187 1).toInt = ((m5.1 187 1)).toInt := congrArg _ (g27.at (a := 187) (k := 1) (by decide))
      have e32 : (m6.1 187 0).toInt = ((m5.1 187 0)).toInt := congrArg _ (g27.at (a := 187) (k := 0) (by decide))
      refine ⟨v7, rfl, ?_⟩
      refine ⟨?_, ?_⟩
      · exact vpi (by omega) (by omega)
      · have w33 : WT (uI m6 187 16 (0 : Int32)) := w_m6.t rfl (by show (0 : Int) ≤ (0 : Int); omega) (by show (0 : Int) ≤ 16; omega)
        have f33 : Fx (RS [20, 22, 24, 26, 28, 29, 49]) m (uI m6 187 16 (0 : Int32)) := f_m6.i rfl
        refine (s_X12_tell w33 (by show (0 : Int) ≤ 15; omega)).to ?_
        rintro _ m8 ⟨w_m8, g34, rfl, p35⟩
        have f_m8 : Fx (RS [20, 22, 24, 26, 28, 29, 49]) m m8 := f33.tr g34 (RS_sub rfl)
        have p36 : (m8.1 187 16).toInt = (0 : Int) + 1 := p35
        clear p35
        have e37 : (m8.1 187 1).toInt = ((m6.1 187 1)).toInt := congrArg _ (g34.at (a := 187) (k := 1) (by decide))
        have e38 : (m8.1 187 0).toInt = ((m6.1 187 0)).toInt := congrArg _ (g34.at (a := 187) (k := 0) (by decide))
        refine ⟨rfl, ?_⟩
        refine ⟨?_, ?_⟩
        · exact vpi (by omega) (by omega)
        · have r39 := w_m8.at (a := 187) (k := 16) rfl
          refine (s_X12_tell w_m8 (by show ((m8.1 187 16)).toInt ≤ 15; omega)).to ?_
          rintro _ m9 ⟨w_m9, g40, rfl, p41⟩
          have f_m9 : Fx (RS [20, 22, 24, 26, 28, 29, 49]) m m9 := f_m8.tr g40 (RS_sub rfl)
          have p42 : (m9.1 187 16).toInt = ((m8.1 187 16)).toInt + 1 := p41
          clear p41
          have e43 : (m9.1 187 1).toInt = ((m8.1 187 1)).toInt := congrArg _ (g40.at (a := 187) (k := 1) (by decide))
          have e44 : (m9.1 187 0).toInt = ((m8.1 187 0)).toInt := congrArg _ (g40.at (a := 187) (k := 0) (by decide))
          refine ⟨rfl, ?_⟩
          exact ⟨w_m9, f_m9, _, rfl⟩
    · intro c45
      have k46 := y_eqr (n := 0) rfl c45
      exact ⟨w_m3, f_m3, _, rfl⟩
set_option maxHeartbeats 4000000 in
theorem s_X12_undo {ad : Nat → Nat} {d : Nat} {m : Wm} (w : WT m) : Ct ad μX12_undo (d + 1) [.ref (ad 187)] m (fun r m' => WT m' ∧ Fx (RS [20, 24, 29, 49]) m m' ∧ ∃ v : Int32, r = some (.int v)) := by
  have f : Fx (RS [20, 24, 29, 49]) m m := Fx.rf
  refine v_X12_undo  ?_
  refine ⟨?_, ?_⟩
  · intro c1
    have r2 := w.at (a := 187) (k := 30) rfl
    have c3 : ¬ (m.1 187 30) = (0 : Int32) := c1
    have k4 := y_ner (n := 0) rfl c3
    have w5 : WT (uI m 187 17 (0 : Int32)) := w.n rfl
    have f5 : Fx (RS [20, 24, 29, 49]) m (uI m 187 17 (0 : Int32)) := f.i rfl
    have t7 := ti_subc (x := (m.1 187 30)) (y := (1 : Int32)) (c := 1) rfl (by omega)
    have w6 : WT (uI (uI m 187 17 (0 : Int32)) 187 30 (((uI m 187 17 (0 : Int32)).1 187 30) - (1 : Int32))) := w5.t rfl (by show (0 : Int) ≤ (((m.1 187 30) - (1 : Int32))).toInt; omega) (by show (((m.1 187 30) - (1 : Int32))).toInt ≤ 20; omega)
    have f6 : Fx (RS [20, 24, 29, 49]) m (uI (uI m 187 17 (0 : Int32)) 187 30 (((uI m 187 17 (0 : Int32)).1 187 30) - (1 : Int32))) := f5.i rfl
    have t8 := ti_mulc (c := 57) (y := (57 : Int32)) (x := ((m.1 187 30) - (1 : Int32))) rfl (by omega)
    refine (s_X12_bring_201 w6 (by show (0 : Int) ≤ (((57 : Int32) * ((m.1 187 30) - (1 : Int32)))).toInt; omega) (by show (((57 : Int32) * ((m.1 187 30) - (1 : Int32)))).toInt ≤ (1083 : Int); omega)).to ?_
    rintro _ m1 ⟨w_m1, g9, rfl⟩
    have f_m1 : Fx (RS [20, 24, 29, 49]) m m1 := f6.tr g9 (RS_sub rfl)
    have e10 : (m1.1 187 1).toInt = ((m.1 187 1)).toInt := congrArg _ (g9.at (a := 187) (k := 1) (by decide))
    have e11 : (m1.1 187 0).toInt = ((m.1 187 0)).toInt := congrArg _ (g9.at (a := 187) (k := 0) (by decide))
    refine ⟨rfl, ?_⟩
    have r12 := w_m1.at (a := 187) (k := 30) rfl
    exact ⟨w_m1, f_m1, _, rfl⟩
  · intro c13
    have r14 := w.at (a := 187) (k := 30) rfl
    have c15 : (m.1 187 30) = (0 : Int32) := c13
    have k16 := y_eqr (n := 0) rfl c15
    have w17 : WT (uI m 187 17 (0 : Int32)) := w.n rfl
    have f17 : Fx (RS [20, 24, 29, 49]) m (uI m 187 17 (0 : Int32)) := f.i rfl
    exact ⟨w17, f17, _, rfl⟩
set_option maxHeartbeats 4000000 in
theorem l_X12_judge {ad : Nat → Nat} {d : Nat} {m0 : Wm}  : ∀ n : Nat, (∀ (m : Wm) (x1 x2 x3 x4 x5 : Int32), WT m → Fx (RS [20, 22, 24, 26, 28, 30, 49]) m0 m → (0 : Int) ≤ x1.toInt → x1.toInt ≤ (3 : Int) → (0 : Int) ≤ x5.toInt → x5.toInt ≤ (3 : Int) → 4 - x5.toInt < (n : Int) → AW ad E0 μX12_judge (d + 171) (fun r m' => WT m' ∧ Fx (RS [20, 22, 24, 26, 28, 30, 49]) m0 m' ∧ ∃ v : Int32, r = some (.int v)) 40 [(0, .ref (ad 187)), (1, .int x1), (2, .int x2), (3, .int x3), (4, .int x4), (5, .int x5)] [] m) ∧ (∀ (m : Wm) (x3 x4 : Int32), WT m → Fx (RS [20, 22, 24, 26, 28, 30, 49]) m0 m → 0 * x3.toInt < (n : Int) → AW ad E0 μX12_judge (d + 171) (fun r m' => WT m' ∧ Fx (RS [20, 22, 24, 26, 28, 30, 49]) m0 m' ∧ ∃ v : Int32, r = some (.int v)) 138 [(0, .ref (ad 187)), (3, .int x3), (4, .int x4)] [] m) := by
  intro n
  induction n with
  | zero =>
    refine ⟨?_, ?_⟩ <;> intros <;> exfalso <;> omega
  | succ n ih =>
    refine ⟨?_, ?_⟩
    · intro m x1 x2 x3 x4 x5 w f j1 j2 j3 j4 hn
      refine g_X12_judge_40  ?_
      refine ⟨?_, ?_⟩
      · intro c1
        have k2 := z_le c1
        exact ih.2 _ _ _ w f (by show 0 * (x3).toInt < _; omega)
      · intro c3
        have k4 := z_nle c3
        refine ⟨?_, ?_⟩
        · intro c5
          have k6 := y_ner (n := -2) rfl c5
          exact ih.2 _ _ _ w f (by show 0 * (x3).toInt < _; omega)
        · intro c7
          have k8 := y_eqr (n := -2) rfl c7
          refine ⟨?_, ?_⟩
          · intro c9
            have t10 := t_and1023 (x2 >>> (((10 : Int32) * x5) &&& 31))
            have t11 := t_div (x := ((x2 >>> (((10 : Int32) * x5) &&& 31)) &&& (1023 : Int32))) (y := (100 : Int32)) (c := 100) rfl (by decide) (by decide) (by omega)
            have k12 := y_ltl (n := 2) rfl c9
            have t13 := ti_addc (x := x5) (y := (1 : Int32)) (c := 1) rfl (by omega)
            exact ih.1 _ _ _ _ _ _ w f (by show (0 : Int) ≤ (x1).toInt; omega) (by show (x1).toInt ≤ (3 : Int); omega) (by show (0 : Int) ≤ ((x5 + (1 : Int32))).toInt; omega) (by show ((x5 + (1 : Int32))).toInt ≤ (3 : Int); omega) (by show 4 - ((x5 + (1 : Int32))).toInt < _; omega)
          · intro c14
            have t15 := t_and1023 (x2 >>> (((10 : Int32) * x5) &&& 31))
            have t16 := t_div (x := ((x2 >>> (((10 : Int32) * x5) &&& 31)) &&& (1023 : Int32))) (y := (100 : Int32)) (c := 100) rfl (by decide) (by decide) (by omega)
            have k17 := y_nltl (n := 2) rfl c14
            refine (s_X12_areTwo w).to ?_
            rintro _ m1 ⟨w_m1, g18, v2, rfl, p20, p21, p19⟩
            have f_m1 : Fx (RS [20, 22, 24, 26, 28, 30, 49]) m0 m1 := f.tr g18 (RS_sub rfl)
            have p22 : (v2.toInt = 0 ∧ ((((((x2 >>> (((10 : Int32) * x5) &&& 31)) &&& (1023 : Int32)) / (10 : Int32)) - (((((x2 >>> (((10 : Int32) * x5) &&& 31)) &&& (1023 : Int32)) / (10 : Int32)) / (10 : Int32)) * (10 : Int32)))).toInt < 0 ∨ ((m.1 187 1)).toInt ≤ (((((x2 >>> (((10 : Int32) * x5) &&& 31)) &&& (1023 : Int32)) / (10 : Int32)) - (((((x2 >>> (((10 : Int32) * x5) &&& 31)) &&& (1023 : Int32)) / (10 : Int32)) / (10 : Int32)) * (10 : Int32)))).toInt ∨ ((((x2 >>> (((10 : Int32) * x5) &&& 31)) &&& (1023 : Int32)) - ((((x2 >>> (((10 : Int32) * x5) &&& 31)) &&& (1023 : Int32)) / (10 : Int32)) * (10 : Int32)))).toInt < 0 ∨ ((m.1 187 1)).toInt ≤ ((((x2 >>> (((10 : Int32) * x5) &&& 31)) &&& (1023 : Int32)) - ((((x2 >>> (((10 : Int32) * x5) &&& 31)) &&& (1023 : Int32)) / (10 : Int32)) * (10 : Int32)))).toInt ∨ (((((x2 >>> (((10 : Int32) * x5) &&& 31)) &&& (1023 : Int32)) / (10 : Int32)) - (((((x2 >>> (((10 : Int32) * x5) &&& 31)) &&& (1023 : Int32)) / (10 : Int32)) / (10 : Int32)) * (10 : Int32)))).toInt = ((((x2 >>> (((10 : Int32) * x5) &&& 31)) &&& (1023 : Int32)) - ((((x2 >>> (((10 : Int32) * x5) &&& 31)) &&& (1023 : Int32)) / (10 : Int32)) * (10 : Int32)))).toInt)) ∨ (v2.toInt = 1 ∧ 0 ≤ (((((x2 >>> (((10 : Int32) * x5) &&& 31)) &&& (1023 : Int32)) / (10 : Int32)) - (((((x2 >>> (((10 : Int32) * x5) &&& 31)) &&& (1023 : Int32)) / (10 : Int32)) / (10 : Int32)) * (10 : Int32)))).toInt ∧ (((((x2 >>> (((10 : Int32) * x5) &&& 31)) &&& (1023 : Int32)) / (10 : Int32)) - (((((x2 >>> (((10 : Int32) * x5) &&& 31)) &&& (1023 : Int32)) / (10 : Int32)) / (10 : Int32)) * (10 : Int32)))).toInt < ((m.1 187 1)).toInt ∧ 0 ≤ ((((x2 >>> (((10 : Int32) * x5) &&& 31)) &&& (1023 : Int32)) - ((((x2 >>> (((10 : Int32) * x5) &&& 31)) &&& (1023 : Int32)) / (10 : Int32)) * (10 : Int32)))).toInt ∧ ((((x2 >>> (((10 : Int32) * x5) &&& 31)) &&& (1023 : Int32)) - ((((x2 >>> (((10 : Int32) * x5) &&& 31)) &&& (1023 : Int32)) / (10 : Int32)) * (10 : Int32)))).toInt < ((m.1 187 1)).toInt ∧ (((((x2 >>> (((10 : Int32) * x5) &&& 31)) &&& (1023 : Int32)) / (10 : Int32)) - (((((x2 >>> (((10 : Int32) * x5) &&& 31)) &&& (1023 : Int32)) / (10 : Int32)) / (10 : Int32)) * (10 : Int32)))).toInt ≠ ((((x2 >>> (((10 : Int32) * x5) &&& 31)) &&& (1023 : Int32)) - ((((x2 >>> (((10 : Int32) * x5) &&& 31)) &&& (1023 : Int32)) / (10 : Int32)) * (10 : Int32)))).toInt) := p19
            clear p19
            have e23 : (m1.1 187 16).toInt = ((m.1 187 16)).toInt := congrArg _ (g18.at (a := 187) (k := 16) (by decide))
            have e24 : (m1.1 187 1).toInt = ((m.1 187 1)).toInt := congrArg _ (g18.at (a := 187) (k := 1) (by decide))
            have e25 : (m1.1 187 0).toInt = ((m.1 187 0)).toInt := congrArg _ (g18.at (a := 187) (k := 0) (by decide))
            refine ⟨v2, rfl, ?_⟩
            refine ⟨?_, ?_⟩
            · intro c26
              have k27 := y_eqr (n := 0) rfl c26
              have t28 := ti_addc (x := x5) (y := (1 : Int32)) (c := 1) rfl (by omega)
              exact ih.1 _ _ _ _ _ _ w_m1 f_m1 (by show (0 : Int) ≤ (x1).toInt; omega) (by show (x1).toInt ≤ (3 : Int); omega) (by show (0 : Int) ≤ ((x5 + (1 : Int32))).toInt; omega) (by show ((x5 + (1 : Int32))).toInt ≤ (3 : Int); omega) (by show 4 - ((x5 + (1 : Int32))).toInt < _; omega)
            · intro c29
              have k30 := y_ner (n := 0) rfl c29
              have r31 := w.at (a := 187) (k := 1) rfl
              refine ⟨?_, ?_⟩
              · intro c32
                have k33 := z_le c32
                refine (s_X12_goGame w_m1 (by show (0 : Int) ≤ (((((x2 >>> (((10 : Int32) * x5) &&& 31)) &&& (1023 : Int32)) / (10 : Int32)) - (((((x2 >>> (((10 : Int32) * x5) &&& 31)) &&& (1023 : Int32)) / (10 : Int32)) / (10 : Int32)) * (10 : Int32)))).toInt; omega) (by show (((((x2 >>> (((10 : Int32) * x5) &&& 31)) &&& (1023 : Int32)) / (10 : Int32)) - (((((x2 >>> (((10 : Int32) * x5) &&& 31)) &&& (1023 : Int32)) / (10 : Int32)) / (10 : Int32)) * (10 : Int32)))).toInt ≤ (7 : Int); omega) (by show (0 : Int) ≤ ((((x2 >>> (((10 : Int32) * x5) &&& 31)) &&& (1023 : Int32)) - ((((x2 >>> (((10 : Int32) * x5) &&& 31)) &&& (1023 : Int32)) / (10 : Int32)) * (10 : Int32)))).toInt; omega) (by show ((((x2 >>> (((10 : Int32) * x5) &&& 31)) &&& (1023 : Int32)) - ((((x2 >>> (((10 : Int32) * x5) &&& 31)) &&& (1023 : Int32)) / (10 : Int32)) * (10 : Int32)))).toInt ≤ (7 : Int); omega)).to ?_
                rintro _ m3 ⟨w_m3, g34, v4, rfl, p35, p36⟩
                have f_m3 : Fx (RS [20, 22, 24, 26, 28, 30, 49]) m0 m3 := f_m1.tr g34 (RS_sub rfl)
                have e37 : (m3.1 187 16).toInt = ((m1.1 187 16)).toInt := congrArg _ (g34.at (a := 187) (k := 16) (by decide))
                have e38 : (m3.1 187 1).toInt = ((m1.1 187 1)).toInt := congrArg _ (g34.at (a := 187) (k := 1) (by decide))
                have e39 : (m3.1 187 0).toInt = ((m1.1 187 0)).toInt := congrArg _ (g34.at (a := 187) (k := 0) (by decide))
                refine ⟨v4, rfl, ?_⟩
                have t40 := ti_addc (x := x5) (y := (1 : Int32)) (c := 1) rfl (by omega)
                exact ih.1 _ _ _ _ _ _ w_m3 f_m3 (by show (0 : Int) ≤ (x1).toInt; omega) (by show (x1).toInt ≤ (3 : Int); omega) (by show (0 : Int) ≤ ((x5 + (1 : Int32))).toInt; omega) (by show ((x5 + (1 : Int32))).toInt ≤ (3 : Int); omega) (by show 4 - ((x5 + (1 : Int32))).toInt < _; omega)
              · intro c41
                have k42 := z_nle c41
                have t43 := ti_addc (x := x5) (y := (1 : Int32)) (c := 1) rfl (by omega)
                exact ih.1 _ _ _ _ _ _ w_m1 f_m1 (by show (0 : Int) ≤ (x1).toInt; omega) (by show (x1).toInt ≤ (3 : Int); omega) (by show (0 : Int) ≤ ((x5 + (1 : Int32))).toInt; omega) (by show ((x5 + (1 : Int32))).toInt ≤ (3 : Int); omega) (by show 4 - ((x5 + (1 : Int32))).toInt < _; omega)
    · intro m x3 x4 w f  hn
      refine g_X12_judge_138  ?_
      refine (s_X12_sumOfAll w).to ?_
      rintro _ m1 ⟨w_m1, g1, v2, rfl⟩
      have f_m1 : Fx (RS [20, 22, 24, 26, 28, 30, 49]) m0 m1 := f.tr g1 (RS_sub rfl)
      have e2 : (m1.1 187 16).toInt = ((m.1 187 16)).toInt := congrArg _ (g1.at (a := 187) (k := 16) (by decide))
      have e3 : (m1.1 187 1).toInt = ((m.1 187 1)).toInt := congrArg _ (g1.at (a := 187) (k := 1) (by decide))
      have e4 : (m1.1 187 0).toInt = ((m.1 187 0)).toInt := congrArg _ (g1.at (a := 187) (k := 0) (by decide))
      refine ⟨v2, rfl, ?_⟩
      refine (s_X12_bring_202 w_m1 (by show (0 : Int) ≤ (0 : Int); omega) (by show (0 : Int) ≤ (0 : Int); omega)).to ?_
      rintro _ m3 ⟨w_m3, g5, rfl⟩
      have f_m3 : Fx (RS [20, 22, 24, 26, 28, 30, 49]) m0 m3 := f_m1.tr g5 (RS_sub rfl)
      have e6 : (m3.1 187 16).toInt = ((m1.1 187 16)).toInt := congrArg _ (g5.at (a := 187) (k := 16) (by decide))
      have e7 : (m3.1 187 1).toInt = ((m1.1 187 1)).toInt := congrArg _ (g5.at (a := 187) (k := 1) (by decide))
      have e8 : (m3.1 187 0).toInt = ((m1.1 187 0)).toInt := congrArg _ (g5.at (a := 187) (k := 0) (by decide))
      refine ⟨rfl, ?_⟩
      have w9 : WT (uI m3 187 16 (0 : Int32)) := w_m3.t rfl (by show (0 : Int) ≤ (0 : Int); omega) (by show (0 : Int) ≤ 16; omega)
      have f9 : Fx (RS [20, 22, 24, 26, 28, 30, 49]) m0 (uI m3 187 16 (0 : Int32)) := f_m3.i rfl
      refine (s_X12_tell w9 (by show (0 : Int) ≤ 15; omega)).to ?_
      rintro _ m4 ⟨w_m4, g10, rfl, p11⟩
      have f_m4 : Fx (RS [20, 22, 24, 26, 28, 30, 49]) m0 m4 := f9.tr g10 (RS_sub rfl)
      have p12 : (m4.1 187 16).toInt = (0 : Int) + 1 := p11
      clear p11
      have e13 : (m4.1 187 1).toInt = ((m3.1 187 1)).toInt := congrArg _ (g10.at (a := 187) (k := 1) (by decide))
      have e14 : (m4.1 187 0).toInt = ((m3.1 187 0)).toInt := congrArg _ (g10.at (a := 187) (k := 0) (by decide))
      refine ⟨rfl, ?_⟩
      exact ⟨w_m4, f_m4, _, rfl⟩
set_option maxHeartbeats 4000000 in
theorem s_X12_judge {ad : Nat → Nat} {d : Nat} {m : Wm} {x1 x2 : Int32} (w : WT m) : Ct ad μX12_judge (d + 171) [.ref (ad 187), .int x1, .int x2] m (fun r m' => WT m' ∧ Fx (RS [20, 22, 24, 26, 28, 30, 49]) m m' ∧ ∃ v : Int32, r = some (.int v)) := by
  have f : Fx (RS [20, 22, 24, 26, 28, 30, 49]) m m := Fx.rf
  refine v_X12_judge  ?_
  have w1 : WT (uI m 187 17 (0 : Int32)) := w.n rfl
  have f1 : Fx (RS [20, 22, 24, 26, 28, 30, 49]) m (uI m 187 17 (0 : Int32)) := f.i rfl
  refine (s_X12_in (x := x1) (lo := (0 : Int32)) (hi := (3 : Int32)) w1 rfl rfl).to ?_
  rintro _ m1 ⟨w_m1, g2, v2, rfl, p4, p5, p3⟩
  have f_m1 : Fx (RS [20, 22, 24, 26, 28, 30, 49]) m m1 := f1.tr g2 (RS_sub rfl)
  have p6 : (v2.toInt = 0 ∧ ((x1).toInt < (0 : Int) ∨ (3 : Int) < (x1).toInt)) ∨ (v2.toInt = 1 ∧ (0 : Int) ≤ (x1).toInt ∧ (x1).toInt ≤ (3 : Int)) := p3
  clear p3
  have e7 : (m1.1 187 16).toInt = ((m.1 187 16)).toInt := congrArg _ (g2.at (a := 187) (k := 16) (by decide))
  have e8 : (m1.1 187 1).toInt = ((m.1 187 1)).toInt := congrArg _ (g2.at (a := 187) (k := 1) (by decide))
  have e9 : (m1.1 187 0).toInt = ((m.1 187 0)).toInt := congrArg _ (g2.at (a := 187) (k := 0) (by decide))
  refine ⟨v2, rfl, ?_⟩
  refine ⟨?_, ?_⟩
  · intro c10
    have k11 := y_ner (n := 0) rfl c10
    refine (s_X12_lay_202 w_m1 (by show (0 : Int) ≤ (0 : Int); omega) (by show (0 : Int) ≤ (0 : Int); omega)).to ?_
    rintro _ m3 ⟨w_m3, g12, rfl⟩
    have f_m3 : Fx (RS [20, 22, 24, 26, 28, 30, 49]) m m3 := f_m1.tr g12 (RS_sub rfl)
    have e13 : (m3.1 187 16).toInt = ((m1.1 187 16)).toInt := congrArg _ (g12.at (a := 187) (k := 16) (by decide))
    have e14 : (m3.1 187 1).toInt = ((m1.1 187 1)).toInt := congrArg _ (g12.at (a := 187) (k := 1) (by decide))
    have e15 : (m3.1 187 0).toInt = ((m1.1 187 0)).toInt := congrArg _ (g12.at (a := 187) (k := 0) (by decide))
    refine ⟨rfl, ?_⟩
    refine (s_X12_sumOfAll w_m3).to ?_
    rintro _ m4 ⟨w_m4, g16, v5, rfl⟩
    have f_m4 : Fx (RS [20, 22, 24, 26, 28, 30, 49]) m m4 := f_m3.tr g16 (RS_sub rfl)
    have e17 : (m4.1 187 16).toInt = ((m3.1 187 16)).toInt := congrArg _ (g16.at (a := 187) (k := 16) (by decide))
    have e18 : (m4.1 187 1).toInt = ((m3.1 187 1)).toInt := congrArg _ (g16.at (a := 187) (k := 1) (by decide))
    have e19 : (m4.1 187 0).toInt = ((m3.1 187 0)).toInt := congrArg _ (g16.at (a := 187) (k := 0) (by decide))
    refine ⟨v5, rfl, ?_⟩
    exact (l_X12_judge (m0 := m) 1000000).1 _ _ _ _ _ _ w_m4 f_m4 (by show (0 : Int) ≤ (x1).toInt; omega) (by show (x1).toInt ≤ (3 : Int); omega) (by show (0 : Int) ≤ (0 : Int); omega) (by show (0 : Int) ≤ (3 : Int); omega) (by show 4 - (0 : Int) < _; omega)
  · intro c20
    have k21 := y_eqr (n := 0) rfl c20
    exact ⟨w_m1, f_m1, _, rfl⟩
set_option maxHeartbeats 4000000 in
theorem l_X12_goRounds {ad : Nat → Nat} {d : Nat} {m0 : Wm}  : ∀ n : Nat, (∀ (m : Wm) (x1 x2 x3 x4 x5 : Int32), WT m → Fx (RS [22, 24, 28, 29, 31, 49]) m0 m → (0 : Int) ≤ x1.toInt → x1.toInt ≤ (200 : Int) → (0 : Int) ≤ x5.toInt → x5.toInt ≤ (200 : Int) → (1 ≤ (m.1 187 11).toInt) → (200 - x5.toInt) * 1000 + 900 < (n : Int) → AW ad E0 μX12_goRounds (d + 171) (fun r m' => WT m' ∧ Fx (RS [22, 24, 28, 29, 31, 49]) m0 m' ∧ r = none) 13 [(0, .ref (ad 187)), (1, .int x1), (2, .int x2), (3, .int x3), (4, .int x4), (5, .int x5)] [] m) ∧ (∀ (m : Wm) (x1 x2 x3 x4 x5 x6 x7 : Int32), WT m → Fx (RS [22, 24, 28, 29, 31, 49]) m0 m → (0 : Int) ≤ x1.toInt → x1.toInt ≤ (200 : Int) → (0 : Int) ≤ x5.toInt → x5.toInt ≤ (199 : Int) → (0 : Int) ≤ x7.toInt → x7.toInt ≤ (40 : Int) → (1 ≤ (m.1 187 11).toInt) → (200 - x5.toInt) * 1000 + (40 - x7.toInt) * 4 + 3 < (n : Int) → AW ad E0 μX12_goRounds (d + 171) (fun r m' => WT m' ∧ Fx (RS [22, 24, 28, 29, 31, 49]) m0 m' ∧ r = none) 33 [(0, .ref (ad 187)), (1, .int x1), (2, .int x2), (3, .int x3), (4, .int x4), (5, .int x5), (6, .int x6), (7, .int x7)] [] m) ∧ (∀ (m : Wm) (x1 x2 x3 x4 x5 x6 x7 : Int32), WT m → Fx (RS [22, 24, 28, 29, 31, 49]) m0 m → (0 : Int) ≤ x1.toInt → x1.toInt ≤ (200 : Int) → (0 : Int) ≤ x5.toInt → x5.toInt ≤ (199 : Int) → (0 : Int) ≤ x7.toInt → x7.toInt ≤ (39 : Int) → (1 ≤ (m.1 187 11).toInt) → (200 - x5.toInt) * 1000 + (40 - x7.toInt) * 4 + 2 < (n : Int) → AW ad E0 μX12_goRounds (d + 171) (fun r m' => WT m' ∧ Fx (RS [22, 24, 28, 29, 31, 49]) m0 m' ∧ r = none) 69 [(0, .ref (ad 187)), (1, .int x1), (2, .int x2), (3, .int x3), (4, .int x4), (5, .int x5), (6, .int x6), (7, .int x7)] [] m) ∧ (∀ (m : Wm) (x1 x2 x3 x4 x5 x6 x7 s0 s1 : Int32), WT m → Fx (RS [22, 24, 28, 29, 31, 49]) m0 m → (0 : Int) ≤ x1.toInt → x1.toInt ≤ (200 : Int) → (0 : Int) ≤ x5.toInt → x5.toInt ≤ (199 : Int) → (0 : Int) ≤ x7.toInt → x7.toInt ≤ (39 : Int) → (1 ≤ (m.1 187 11).toInt) → (200 - x5.toInt) * 1000 + (40 - x7.toInt) * 4 + 1 < (n : Int) → AW ad E0 μX12_goRounds (d + 171) (fun r m' => WT m' ∧ Fx (RS [22, 24, 28, 29, 31, 49]) m0 m' ∧ r = none) 120 [(0, .ref (ad 187)), (1, .int x1), (2, .int x2), (3, .int x3), (4, .int x4), (5, .int x5), (6, .int x6), (7, .int x7)] [.int s0, .int s1, .ref (ad 187)] m) := by
  intro n
  induction n with
  | zero =>
    refine ⟨?_, ?_, ?_, ?_⟩ <;> intros <;> exfalso <;> omega
  | succ n ih =>
    refine ⟨?_, ?_, ?_, ?_⟩
    · intro m x1 x2 x3 x4 x5 w f j1 j2 j3 j4 j5 hn
      refine g_X12_goRounds_13  ?_
      refine ⟨?_, ?_⟩
      · intro c1
        have k2 := z_le c1
        exact ⟨w, f, rfl⟩
      · intro c3
        have k4 := z_nle c3
        refine ⟨?_, ?_⟩
        · have r5 := w.at (a := 187) (k := 11) rfl
          first | assumption | (show ¬ (m.1 187 11) = (0 : Int32); exact y_nn (n := 0) rfl (by omega))
        · have r6 := w.at (a := 187) (k := 11) rfl
          exact ih.2.1 _ _ _ _ _ _ _ _ w f (by show (0 : Int) ≤ (x1).toInt; omega) (by show (x1).toInt ≤ (200 : Int); omega) (by show (0 : Int) ≤ (x5).toInt; omega) (by show (x5).toInt ≤ (199 : Int); omega) (by show (0 : Int) ≤ (0 : Int); omega) (by show (0 : Int) ≤ (40 : Int); omega) (by show 1 ≤ ((m.1 187 11)).toInt; omega) (by show (200 - (x5).toInt) * 1000 + (40 - (0 : Int)) * 4 + 3 < _; omega)
    · intro m x1 x2 x3 x4 x5 x6 x7 w f j1 j2 j3 j4 j5 j6 j7 hn
      refine g_X12_goRounds_33  ?_
      refine ⟨?_, ?_⟩
      · intro c1
        have r2 := w.at (a := 187) (k := 10) rfl
        have k3 := z_le c1
        have t4 := ti_addc (x := x5) (y := (1 : Int32)) (c := 1) rfl (by omega)
        have r5 := w.at (a := 187) (k := 11) rfl
        exact ih.1 _ _ _ _ _ _ w f (by show (0 : Int) ≤ (x1).toInt; omega) (by show (x1).toInt ≤ (200 : Int); omega) (by show (0 : Int) ≤ ((x5 + (1 : Int32))).toInt; omega) (by show ((x5 + (1 : Int32))).toInt ≤ (200 : Int); omega) (by show 1 ≤ ((m.1 187 11)).toInt; omega) (by show (200 - ((x5 + (1 : Int32))).toInt) * 1000 + 900 < _; omega)
      · intro c6
        have r7 := w.at (a := 187) (k := 10) rfl
        have k8 := z_nle c6
        refine ⟨?_, ?_⟩
        · have t9 := ti_mulc (c := 4) (y := (4 : Int32)) (x := x7) rfl (by omega)
          have t10 := ti_addc (x := ((4 : Int32) * x7)) (y := (3 : Int32)) (c := 3) rfl (by omega)
          exact vpi (by omega) (by omega)
        · refine ⟨?_, ?_⟩
          · intro c11
            have k12 := z_eq c11
            refine ⟨?_, ?_⟩
            · intro c13
              have k14 := y_eqr (n := 0) rfl c13
              have r15 := w.at (a := 187) (k := 11) rfl
              exact ih.2.2.1 _ _ _ _ _ _ _ _ w f (by show (0 : Int) ≤ (x1).toInt; omega) (by show (x1).toInt ≤ (200 : Int); omega) (by show (0 : Int) ≤ (x5).toInt; omega) (by show (x5).toInt ≤ (199 : Int); omega) (by show (0 : Int) ≤ (x7).toInt; omega) (by show (x7).toInt ≤ (39 : Int); omega) (by show 1 ≤ ((m.1 187 11)).toInt; omega) (by show (200 - (x5).toInt) * 1000 + (40 - (x7).toInt) * 4 + 2 < _; omega)
            · intro c16
              have k17 := y_ner (n := 0) rfl c16
              refine (s_X12_remember w).to ?_
              rintro _ m1 ⟨w_m1, g18, rfl⟩
              have f_m1 : Fx (RS [22, 24, 28, 29, 31, 49]) m0 m1 := f.tr g18 (RS_sub rfl)
              have e19 : (m1.1 187 11).toInt = ((m.1 187 11)).toInt := congrArg _ (g18.at (a := 187) (k := 11) (by decide))
              have e20 : (m1.1 187 10).toInt = ((m.1 187 10)).toInt := congrArg _ (g18.at (a := 187) (k := 10) (by decide))
              have e21 : (m1.1 187 1).toInt = ((m.1 187 1)).toInt := congrArg _ (g18.at (a := 187) (k := 1) (by decide))
              have e22 : (m1.1 187 0).toInt = ((m.1 187 0)).toInt := congrArg _ (g18.at (a := 187) (k := 0) (by decide))
              refine ⟨rfl, ?_⟩
              have r23 := w_m1.at (a := 187) (k := 11) rfl
              exact ih.2.2.1 _ _ _ _ _ _ _ _ w_m1 f_m1 (by show (0 : Int) ≤ (x1).toInt; omega) (by show (x1).toInt ≤ (200 : Int); omega) (by show (0 : Int) ≤ (x5).toInt; omega) (by show (x5).toInt ≤ (199 : Int); omega) (by show (0 : Int) ≤ (x7).toInt; omega) (by show (x7).toInt ≤ (39 : Int); omega) (by show 1 ≤ ((m1.1 187 11)).toInt; omega) (by show (200 - (x5).toInt) * 1000 + (40 - (x7).toInt) * 4 + 2 < _; omega)
          · intro c24
            have k25 := z_ne c24
            have t26 := ti_addc (x := x7) (y := (1 : Int32)) (c := 1) rfl (by omega)
            have r27 := w.at (a := 187) (k := 11) rfl
            exact ih.2.1 _ _ _ _ _ _ _ _ w f (by show (0 : Int) ≤ (x1).toInt; omega) (by show (x1).toInt ≤ (200 : Int); omega) (by show (0 : Int) ≤ (x5).toInt; omega) (by show (x5).toInt ≤ (199 : Int); omega) (by show (0 : Int) ≤ ((x7 + (1 : Int32))).toInt; omega) (by show ((x7 + (1 : Int32))).toInt ≤ (40 : Int); omega) (by show 1 ≤ ((m.1 187 11)).toInt; omega) (by show (200 - (x5).toInt) * 1000 + (40 - ((x7 + (1 : Int32))).toInt) * 4 + 3 < _; omega)
    · intro m x1 x2 x3 x4 x5 x6 x7 w f j1 j2 j3 j4 j5 j6 j7 hn
      refine g_X12_goRounds_69  ?_
      refine ⟨?_, ?_⟩
      · have t1 := ti_mulc (c := 4) (y := (4 : Int32)) (x := x7) rfl (by omega)
        exact vpi (by omega) (by omega)
      · refine ⟨?_, ?_⟩
        · have t2 := ti_mulc (c := 4) (y := (4 : Int32)) (x := x7) rfl (by omega)
          have t3 := ti_addc (x := ((4 : Int32) * x7)) (y := (1 : Int32)) (c := 1) rfl (by omega)
          exact vpi (by omega) (by omega)
        · refine ⟨?_, ?_⟩
          · have t4 := ti_mulc (c := 4) (y := (4 : Int32)) (x := x7) rfl (by omega)
            have t5 := ti_addc (x := ((4 : Int32) * x7)) (y := (2 : Int32)) (c := 2) rfl (by omega)
            exact vpi (by omega) (by omega)
          · have r6 := w.p40 (x := x7) ⟨by omega, by omega⟩
            have r7 := w.p41 (x := x7) ⟨by omega, by omega⟩
            refine (s_X12_goGame w (by show (0 : Int) ≤ ((m.1 194 (((4 : Int32) * x7).toNatClampNeg))).toInt; omega) (by show ((m.1 194 (((4 : Int32) * x7).toNatClampNeg))).toInt ≤ (7 : Int); omega) (by show (0 : Int) ≤ ((m.1 194 ((((4 : Int32) * x7) + (1 : Int32)).toNatClampNeg))).toInt; omega) (by show ((m.1 194 ((((4 : Int32) * x7) + (1 : Int32)).toNatClampNeg))).toInt ≤ (7 : Int); omega)).to ?_
            rintro _ m1 ⟨w_m1, g8, v2, rfl, p9, p10⟩
            have f_m1 : Fx (RS [22, 24, 28, 29, 31, 49]) m0 m1 := f.tr g8 (RS_sub rfl)
            have e11 : (m1.1 187 11).toInt = ((m.1 187 11)).toInt := congrArg _ (g8.at (a := 187) (k := 11) (by decide))
            have e12 : (m1.1 187 10).toInt = ((m.1 187 10)).toInt := congrArg _ (g8.at (a := 187) (k := 10) (by decide))
            have e13 : (m1.1 187 1).toInt = ((m.1 187 1)).toInt := congrArg _ (g8.at (a := 187) (k := 1) (by decide))
            have e14 : (m1.1 187 0).toInt = ((m.1 187 0)).toInt := congrArg _ (g8.at (a := 187) (k := 0) (by decide))
            refine ⟨v2, rfl, ?_⟩
            refine ⟨?_, ?_⟩
            · intro c15
              have k16 := y_ner (n := 2) rfl c15
              have r17 := w_m1.at (a := 187) (k := 11) rfl
              exact ih.2.2.2 _ _ _ _ _ _ _ _ _ _ w_m1 f_m1 (by show (0 : Int) ≤ (x1).toInt; omega) (by show (x1).toInt ≤ (200 : Int); omega) (by show (0 : Int) ≤ (x5).toInt; omega) (by show (x5).toInt ≤ (199 : Int); omega) (by show (0 : Int) ≤ (x7).toInt; omega) (by show (x7).toInt ≤ (39 : Int); omega) (by show 1 ≤ ((m1.1 187 11)).toInt; omega) (by show (200 - (x5).toInt) * 1000 + (40 - (x7).toInt) * 4 + 1 < _; omega)
            · intro c18
              have k19 := y_eqr (n := 2) rfl c18
              have r20 := w_m1.at (a := 187) (k := 11) rfl
              exact ih.2.2.2 _ _ _ _ _ _ _ _ _ _ w_m1 f_m1 (by show (0 : Int) ≤ (x1).toInt; omega) (by show (x1).toInt ≤ (200 : Int); omega) (by show (0 : Int) ≤ (x5).toInt; omega) (by show (x5).toInt ≤ (199 : Int); omega) (by show (0 : Int) ≤ (x7).toInt; omega) (by show (x7).toInt ≤ (39 : Int); omega) (by show 1 ≤ ((m1.1 187 11)).toInt; omega) (by show (200 - (x5).toInt) * 1000 + (40 - (x7).toInt) * 4 + 1 < _; omega)
    · intro m x1 x2 x3 x4 x5 x6 x7 s0 s1 w f j1 j2 j3 j4 j5 j6 j7 hn
      refine g_X12_goRounds_120  ?_
      have w1 : WT (uI m 187 33 (s1 + s0)) := w.n rfl
      have f1 : Fx (RS [22, 24, 28, 29, 31, 49]) m0 (uI m 187 33 (s1 + s0)) := f.i rfl
      have w2 : WT (uI (uI m 187 33 (s1 + s0)) 187 32 (((uI m 187 33 (s1 + s0)).1 187 32) + (1 : Int32))) := w1.n rfl
      have f2 : Fx (RS [22, 24, 28, 29, 31, 49]) m0 (uI (uI m 187 33 (s1 + s0)) 187 32 (((uI m 187 33 (s1 + s0)).1 187 32) + (1 : Int32))) := f1.i rfl
      have t3 := ti_addc (x := x7) (y := (1 : Int32)) (c := 1) rfl (by omega)
      have r4 := w.at (a := 187) (k := 11) rfl
      exact ih.2.1 _ _ _ _ _ _ _ _ w2 f2 (by show (0 : Int) ≤ (x1).toInt; omega) (by show (x1).toInt ≤ (200 : Int); omega) (by show (0 : Int) ≤ (x5).toInt; omega) (by show (x5).toInt ≤ (199 : Int); omega) (by show (0 : Int) ≤ ((x7 + (1 : Int32))).toInt; omega) (by show ((x7 + (1 : Int32))).toInt ≤ (40 : Int); omega) (by show 1 ≤ ((m.1 187 11)).toInt; omega) (by show (200 - (x5).toInt) * 1000 + (40 - ((x7 + (1 : Int32))).toInt) * 4 + 3 < _; omega)
set_option maxHeartbeats 4000000 in
theorem s_X12_goRounds {ad : Nat → Nat} {d : Nat} {m : Wm} {x1 x2 x3 x4 : Int32} (w : WT m) (i1 : (0 : Int) ≤ x1.toInt) (i2 : x1.toInt ≤ (200 : Int)) (i3 : 1 ≤ (m.1 187 11).toInt) : Ct ad μX12_goRounds (d + 171) [.ref (ad 187), .int x1, .int x2, .int x3, .int x4] m (fun r m' => WT m' ∧ Fx (RS [22, 24, 28, 29, 31, 49]) m m' ∧ r = none) := by
  have f : Fx (RS [22, 24, 28, 29, 31, 49]) m m := Fx.rf
  refine v_X12_goRounds  ?_
  have w1 : WT (uI m 187 32 (0 : Int32)) := w.n rfl
  have f1 : Fx (RS [22, 24, 28, 29, 31, 49]) m (uI m 187 32 (0 : Int32)) := f.i rfl
  have w2 : WT (uI (uI m 187 32 (0 : Int32)) 187 33 (0 : Int32)) := w1.n rfl
  have f2 : Fx (RS [22, 24, 28, 29, 31, 49]) m (uI (uI m 187 32 (0 : Int32)) 187 33 (0 : Int32)) := f1.i rfl
  have r3 := w.at (a := 187) (k := 11) rfl
  exact (l_X12_goRounds (m0 := m) 1000000).1 _ _ _ _ _ _ w2 f2 (by show (0 : Int) ≤ (x1).toInt; omega) (by show (x1).toInt ≤ (200 : Int); omega) (by show (0 : Int) ≤ (0 : Int); omega) (by show (0 : Int) ≤ (200 : Int); omega) (by show 1 ≤ ((m.1 187 11)).toInt; omega) (by show (200 - (0 : Int)) * 1000 + 900 < _; omega)
set_option maxHeartbeats 4000000 in
theorem s_X12_rounds {ad : Nat → Nat} {d : Nat} {m : Wm} {x1 : Int32} (w : WT m) : Ct ad μX12_rounds (d + 172) [.ref (ad 187), .int x1] m (fun r m' => WT m' ∧ Fx (RS [20, 22, 24, 26, 28, 29, 31, 49, 52]) m m' ∧ ∃ v : Int32, r = some (.int v) ∧ ((m'.1 187 11).toInt = (m.1 187 11).toInt) ∧ ((m'.1 187 10).toInt = (m.1 187 10).toInt)) := by
  have f : Fx (RS [20, 22, 24, 26, 28, 29, 31, 49, 52]) m m := Fx.rf
  refine v_X12_rounds  ?_
  have w1 : WT (uI m 187 17 (0 : Int32)) := w.n rfl
  have f1 : Fx (RS [20, 22, 24, 26, 28, 29, 31, 49, 52]) m (uI m 187 17 (0 : Int32)) := f.i rfl
  refine (s_X12_in (x := x1) (lo := (0 : Int32)) (hi := (200 : Int32)) w1 rfl rfl).to ?_
  rintro _ m1 ⟨w_m1, g2, v2, rfl, p4, p5, p3⟩
  have f_m1 : Fx (RS [20, 22, 24, 26, 28, 29, 31, 49, 52]) m m1 := f1.tr g2 (RS_sub rfl)
  have p6 : (v2.toInt = 0 ∧ ((x1).toInt < (0 : Int) ∨ (200 : Int) < (x1).toInt)) ∨ (v2.toInt = 1 ∧ (0 : Int) ≤ (x1).toInt ∧ (x1).toInt ≤ (200 : Int)) := p3
  clear p3
  have e7 : (m1.1 187 11).toInt = ((m.1 187 11)).toInt := congrArg _ (g2.at (a := 187) (k := 11) (by decide))
  have e8 : (m1.1 187 10).toInt = ((m.1 187 10)).toInt := congrArg _ (g2.at (a := 187) (k := 10) (by decide))
  have e9 : (m1.1 187 16).toInt = ((m.1 187 16)).toInt := congrArg _ (g2.at (a := 187) (k := 16) (by decide))
  have e10 : (m1.1 187 1).toInt = ((m.1 187 1)).toInt := congrArg _ (g2.at (a := 187) (k := 1) (by decide))
  have e11 : (m1.1 187 0).toInt = ((m.1 187 0)).toInt := congrArg _ (g2.at (a := 187) (k := 0) (by decide))
  refine ⟨v2, rfl, ?_⟩
  refine ⟨?_, ?_⟩
  · intro c12
    have k13 := y_eqr (n := 0) rfl c12
    have r14 := w_m1.at (a := 187) (k := 11) rfl
    have r15 := w_m1.at (a := 187) (k := 10) rfl
    exact ⟨w_m1, f_m1, _, rfl, (by show ((m1.1 187 11)).toInt = (m.1 187 11).toInt; omega), (by show ((m1.1 187 10)).toInt = (m.1 187 10).toInt; omega)⟩
  · intro c16
    have k17 := y_ner (n := 0) rfl c16
    refine ⟨?_, ?_⟩
    · intro c18
      have r19 := w_m1.at (a := 187) (k := 11) rfl
      have k20 := y_ner (n := 0) rfl c18
      refine (s_X12_goRounds w_m1 (by show (0 : Int) ≤ (x1).toInt; omega) (by show (x1).toInt ≤ (200 : Int); omega) (by show 1 ≤ ((m1.1 187 11)).toInt; omega)).to ?_
      rintro _ m3 ⟨w_m3, g21, rfl⟩
      have f_m3 : Fx (RS [20, 22, 24, 26, 28, 29, 31, 49, 52]) m m3 := f_m1.tr g21 (RS_sub rfl)
      have e22 : (m3.1 187 11).toInt = ((m1.1 187 11)).toInt := congrArg _ (g21.at (a := 187) (k := 11) (by decide))
      have e23 : (m3.1 187 10).toInt = ((m1.1 187 10)).toInt := congrArg _ (g21.at (a := 187) (k := 10) (by decide))
      have e24 : (m3.1 187 16).toInt = ((m1.1 187 16)).toInt := congrArg _ (g21.at (a := 187) (k := 16) (by decide))
      have e25 : (m3.1 187 1).toInt = ((m1.1 187 1)).toInt := congrArg _ (g21.at (a := 187) (k := 1) (by decide))
      have e26 : (m3.1 187 0).toInt = ((m1.1 187 0)).toInt := congrArg _ (g21.at (a := 187) (k := 0) (by decide))
      refine ⟨rfl, ?_⟩
      refine ⟨?_, ?_⟩
      · have r27 := w_m3.at (a := 187) (k := 11) rfl
        first | assumption | (show ¬ (m3.1 187 11) = (0 : Int32); exact y_nn (n := 0) rfl (by omega))
      · have w28 : WT (uI m3 187 12 (((m3.1 187 12) + x1) - ((((m3.1 187 12) + x1) / (m3.1 187 11)) * (m3.1 187 11)))) := w_m3.n rfl
        have f28 : Fx (RS [20, 22, 24, 26, 28, 29, 31, 49, 52]) m (uI m3 187 12 (((m3.1 187 12) + x1) - ((((m3.1 187 12) + x1) / (m3.1 187 11)) * (m3.1 187 11)))) := f_m3.i rfl
        have w29 : WT (uI (uI m3 187 12 (((m3.1 187 12) + x1) - ((((m3.1 187 12) + x1) / (m3.1 187 11)) * (m3.1 187 11)))) 187 16 (0 : Int32)) := w28.t rfl (by show (0 : Int) ≤ (0 : Int); omega) (by show (0 : Int) ≤ 16; omega)
        have f29 : Fx (RS [20, 22, 24, 26, 28, 29, 31, 49, 52]) m (uI (uI m3 187 12 (((m3.1 187 12) + x1) - ((((m3.1 187 12) + x1) / (m3.1 187 11)) * (m3.1 187 11)))) 187 16 (0 : Int32)) := f28.i rfl
        refine (s_X12_tell w29 (by show (0 : Int) ≤ 15; omega)).to ?_
        rintro _ m4 ⟨w_m4, g30, rfl, p31⟩
        have f_m4 : Fx (RS [20, 22, 24, 26, 28, 29, 31, 49, 52]) m m4 := f29.tr g30 (RS_sub rfl)
        have p32 : (m4.1 187 16).toInt = (0 : Int) + 1 := p31
        clear p31
        have e33 : (m4.1 187 11).toInt = ((m3.1 187 11)).toInt := congrArg _ (g30.at (a := 187) (k := 11) (by decide))
        have e34 : (m4.1 187 10).toInt = ((m3.1 187 10)).toInt := congrArg _ (g30.at (a := 187) (k := 10) (by decide))
        have e35 : (m4.1 187 1).toInt = ((m3.1 187 1)).toInt := congrArg _ (g30.at (a := 187) (k := 1) (by decide))
        have e36 : (m4.1 187 0).toInt = ((m3.1 187 0)).toInt := congrArg _ (g30.at (a := 187) (k := 0) (by decide))
        refine ⟨rfl, ?_⟩
        refine (s_X12_sumOfAll w_m4).to ?_
        rintro _ m5 ⟨w_m5, g37, v6, rfl⟩
        have f_m5 : Fx (RS [20, 22, 24, 26, 28, 29, 31, 49, 52]) m m5 := f_m4.tr g37 (RS_sub rfl)
        have e38 : (m5.1 187 11).toInt = ((m4.1 187 11)).toInt := congrArg _ (g37.at (a := 187) (k := 11) (by decide))
        have e39 : (m5.1 187 10).toInt = ((m4.1 187 10)).toInt := congrArg _ (g37.at (a := 187) (k := 10) (by decide))
        have e40 : (m5.1 187 16).toInt = ((m4.1 187 16)).toInt := congrArg _ (g37.at (a := 187) (k := 16) (by decide))
        have e41 : (m5.1 187 1).toInt = ((m4.1 187 1)).toInt := congrArg _ (g37.at (a := 187) (k := 1) (by decide))
        have e42 : (m5.1 187 0).toInt = ((m4.1 187 0)).toInt := congrArg _ (g37.at (a := 187) (k := 0) (by decide))
        refine ⟨v6, rfl, ?_⟩
        have r43 := w_m5.at (a := 187) (k := 16) rfl
        refine (s_X12_tell w_m5 (by show ((m5.1 187 16)).toInt ≤ 15; omega)).to ?_
        rintro _ m7 ⟨w_m7, g44, rfl, p45⟩
        have f_m7 : Fx (RS [20, 22, 24, 26, 28, 29, 31, 49, 52]) m m7 := f_m5.tr g44 (RS_sub rfl)
        have p46 : (m7.1 187 16).toInt = ((m5.1 187 16)).toInt + 1 := p45
        clear p45
        have e47 : (m7.1 187 11).toInt = ((m5.1 187 11)).toInt := congrArg _ (g44.at (a := 187) (k := 11) (by decide))
        have e48 : (m7.1 187 10).toInt = ((m5.1 187 10)).toInt := congrArg _ (g44.at (a := 187) (k := 10) (by decide))
        have e49 : (m7.1 187 1).toInt = ((m5.1 187 1)).toInt := congrArg _ (g44.at (a := 187) (k := 1) (by decide))
        have e50 : (m7.1 187 0).toInt = ((m5.1 187 0)).toInt := congrArg _ (g44.at (a := 187) (k := 0) (by decide))
        refine ⟨rfl, ?_⟩
        have r51 := w_m7.at (a := 187) (k := 11) rfl
        have r52 := w_m7.at (a := 187) (k := 10) rfl
        exact ⟨w_m7, f_m7, _, rfl, (by show ((m7.1 187 11)).toInt = (m.1 187 11).toInt; omega), (by show ((m7.1 187 10)).toInt = (m.1 187 10).toInt; omega)⟩
    · intro c53
      have r54 := w_m1.at (a := 187) (k := 11) rfl
      have k55 := y_eqr (n := 0) rfl c53
      have r56 := w_m1.at (a := 187) (k := 10) rfl
      exact ⟨w_m1, f_m1, _, rfl, (by show ((m1.1 187 11)).toInt = (m.1 187 11).toInt; omega), (by show ((m1.1 187 10)).toInt = (m.1 187 10).toInt; omega)⟩
set_option maxHeartbeats 4000000 in
theorem l_X12_spreadNow {ad : Nat → Nat} {d : Nat} {m0 : Wm}  : ∀ n : Nat, (∀ (m : Wm) (x1 x2 x3 : Int32), WT m → Fx (RS [22, 28, 33]) m0 m → (0 : Int) ≤ x3.toInt → x3.toInt ≤ (8 : Int) → (8 - x3.toInt) * 2 + 1 < (n : Int) → AW ad E0 μX12_spreadNow (d + 169) (fun r m' => WT m' ∧ Fx (RS [22, 28, 33]) m0 m' ∧ ∃ v : Int32, r = some (.int v)) 29 [(0, .ref (ad 187)), (1, .int x1), (2, .int x2), (3, .int x3)] [] m) ∧ (∀ (m : Wm) (x1 x2 x3 x4 : Int32), WT m → Fx (RS [22, 28, 33]) m0 m → (0 : Int) ≤ x3.toInt → x3.toInt ≤ (7 : Int) → (8 - x3.toInt) * 2 < (n : Int) → AW ad E0 μX12_spreadNow (d + 169) (fun r m' => WT m' ∧ Fx (RS [22, 28, 33]) m0 m' ∧ ∃ v : Int32, r = some (.int v)) 58 [(0, .ref (ad 187)), (1, .int x1), (2, .int x2), (3, .int x3), (4, .int x4)] [] m) := by
  intro n
  induction n with
  | zero =>
    refine ⟨?_, ?_⟩ <;> intros <;> exfalso <;> omega
  | succ n ih =>
    refine ⟨?_, ?_⟩
    · intro m x1 x2 x3 w f j1 j2 hn
      refine g_X12_spreadNow_29  ?_
      refine ⟨?_, ?_⟩
      · intro c1
        have r2 := w.at (a := 187) (k := 1) rfl
        have k3 := z_le c1
        exact ⟨w, f, _, rfl⟩
      · intro c4
        have r5 := w.at (a := 187) (k := 1) rfl
        have k6 := z_nle c4
        refine (s_X12_power w (by show (0 : Int) ≤ (x3).toInt; omega) (by show (x3).toInt ≤ (7 : Int); omega)).to ?_
        rintro _ m1 ⟨w_m1, g7, v2, rfl⟩
        have f_m1 : Fx (RS [22, 28, 33]) m0 m1 := f.tr g7 (RS_sub rfl)
        have e8 : (m1.1 187 1).toInt = ((m.1 187 1)).toInt := congrArg _ (g7.at (a := 187) (k := 1) (by decide))
        have e9 : (m1.1 187 0).toInt = ((m.1 187 0)).toInt := congrArg _ (g7.at (a := 187) (k := 0) (by decide))
        refine ⟨v2, rfl, ?_⟩
        refine ⟨?_, ?_⟩
        · intro c10
          have k11 := z_le c10
          exact ih.2 _ _ _ _ _ w_m1 f_m1 (by show (0 : Int) ≤ (x3).toInt; omega) (by show (x3).toInt ≤ (7 : Int); omega) (by show (8 - (x3).toInt) * 2 < _; omega)
        · intro c12
          have k13 := z_nle c12
          have w14 : WT (uI m1 187 34 x3) := w_m1.n rfl
          have f14 : Fx (RS [22, 28, 33]) m0 (uI m1 187 34 x3) := f_m1.i rfl
          exact ih.2 _ _ _ _ _ w14 f14 (by show (0 : Int) ≤ (x3).toInt; omega) (by show (x3).toInt ≤ (7 : Int); omega) (by show (8 - (x3).toInt) * 2 < _; omega)
    · intro m x1 x2 x3 x4 w f j1 j2 hn
      refine g_X12_spreadNow_58  ?_
      refine ⟨?_, ?_⟩
      · intro c1
        have k2 := z_le c1
        have t3 := ti_addc (x := x3) (y := (1 : Int32)) (c := 1) rfl (by omega)
        exact ih.1 _ _ _ _ w f (by show (0 : Int) ≤ ((x3 + (1 : Int32))).toInt; omega) (by show ((x3 + (1 : Int32))).toInt ≤ (8 : Int); omega) (by show (8 - ((x3 + (1 : Int32))).toInt) * 2 + 1 < _; omega)
      · intro c4
        have k5 := z_nle c4
        have w6 : WT (uI m 187 35 x3) := w.n rfl
        have f6 : Fx (RS [22, 28, 33]) m0 (uI m 187 35 x3) := f.i rfl
        have t7 := ti_addc (x := x3) (y := (1 : Int32)) (c := 1) rfl (by omega)
        exact ih.1 _ _ _ _ w6 f6 (by show (0 : Int) ≤ ((x3 + (1 : Int32))).toInt; omega) (by show ((x3 + (1 : Int32))).toInt ≤ (8 : Int); omega) (by show (8 - ((x3 + (1 : Int32))).toInt) * 2 + 1 < _; omega)
set_option maxHeartbeats 4000000 in
theorem s_X12_spreadNow {ad : Nat → Nat} {d : Nat} {m : Wm} (w : WT m) : Ct ad μX12_spreadNow (d + 169) [.ref (ad 187)] m (fun r m' => WT m' ∧ Fx (RS [22, 28, 33]) m m' ∧ ∃ v : Int32, r = some (.int v)) := by
  have f : Fx (RS [22, 28, 33]) m m := Fx.rf
  refine v_X12_spreadNow  ?_
  refine ⟨?_, ?_⟩
  · intro c1
    have r2 := w.at (a := 187) (k := 1) rfl
    have c3 : ¬ (m.1 187 1) = (0 : Int32) := c1
    have k4 := y_ner (n := 0) rfl c3
    have w5 : WT (uI m 187 34 (0 : Int32)) := w.n rfl
    have f5 : Fx (RS [22, 28, 33]) m (uI m 187 34 (0 : Int32)) := f.i rfl
    have w6 : WT (uI (uI m 187 34 (0 : Int32)) 187 35 (0 : Int32)) := w5.n rfl
    have f6 : Fx (RS [22, 28, 33]) m (uI (uI m 187 34 (0 : Int32)) 187 35 (0 : Int32)) := f5.i rfl
    refine (s_X12_power w6 (by show (0 : Int) ≤ (0 : Int); omega) (by show (0 : Int) ≤ (7 : Int); omega)).to ?_
    rintro _ m1 ⟨w_m1, g7, v2, rfl⟩
    have f_m1 : Fx (RS [22, 28, 33]) m m1 := f6.tr g7 (RS_sub rfl)
    have e8 : (m1.1 187 1).toInt = ((m.1 187 1)).toInt := congrArg _ (g7.at (a := 187) (k := 1) (by decide))
    have e9 : (m1.1 187 0).toInt = ((m.1 187 0)).toInt := congrArg _ (g7.at (a := 187) (k := 0) (by decide))
    refine ⟨v2, rfl, ?_⟩
    exact (l_X12_spreadNow (m0 := m) 1000000).1 _ _ _ _ w_m1 f_m1 (by show (0 : Int) ≤ (1 : Int); omega) (by show (1 : Int) ≤ (8 : Int); omega) (by show (8 - (1 : Int)) * 2 + 1 < _; omega)
  · intro c10
    have r11 := w.at (a := 187) (k := 1) rfl
    have c12 : (m.1 187 1) = (0 : Int32) := c10
    have k13 := y_eqr (n := 0) rfl c12
    have w14 : WT (uI m 187 34 (0 : Int32)) := w.n rfl
    have f14 : Fx (RS [22, 28, 33]) m (uI m 187 34 (0 : Int32)) := f.i rfl
    have w15 : WT (uI (uI m 187 34 (0 : Int32)) 187 35 (0 : Int32)) := w14.n rfl
    have f15 : Fx (RS [22, 28, 33]) m (uI (uI m 187 34 (0 : Int32)) 187 35 (0 : Int32)) := f14.i rfl
    exact ⟨w15, f15, _, rfl⟩
set_option maxHeartbeats 4000000 in
theorem s_X12_spread {ad : Nat → Nat} {d : Nat} {m : Wm} (w : WT m) : Ct ad μX12_spread (d + 170) [.ref (ad 187)] m (fun r m' => WT m' ∧ Fx (RS [20, 22, 26, 28, 33]) m m' ∧ ∃ v : Int32, r = some (.int v)) := by
  have f : Fx (RS [20, 22, 26, 28, 33]) m m := Fx.rf
  refine v_X12_spread  ?_
  have w1 : WT (uI m 187 17 (0 : Int32)) := w.n rfl
  have f1 : Fx (RS [20, 22, 26, 28, 33]) m (uI m 187 17 (0 : Int32)) := f.i rfl
  refine (s_X12_spreadNow w1).to ?_
  rintro _ m1 ⟨w_m1, g2, v2, rfl⟩
  have f_m1 : Fx (RS [20, 22, 26, 28, 33]) m m1 := f1.tr g2 (RS_sub rfl)
  have e3 : (m1.1 187 16).toInt = ((m.1 187 16)).toInt := congrArg _ (g2.at (a := 187) (k := 16) (by decide))
  have e4 : (m1.1 187 1).toInt = ((m.1 187 1)).toInt := congrArg _ (g2.at (a := 187) (k := 1) (by decide))
  have e5 : (m1.1 187 0).toInt = ((m.1 187 0)).toInt := congrArg _ (g2.at (a := 187) (k := 0) (by decide))
  refine ⟨v2, rfl, ?_⟩
  refine ⟨?_, ?_⟩
  · intro c6
    have r7 := w_m1.at (a := 187) (k := 1) rfl
    have c8 : (m1.1 187 1) ≤ (0 : Int32) := c6
    have k9 := y_ler (n := 0) rfl c8
    have w10 : WT (uI m1 187 16 (0 : Int32)) := w_m1.t rfl (by show (0 : Int) ≤ (0 : Int); omega) (by show (0 : Int) ≤ 16; omega)
    have f10 : Fx (RS [20, 22, 26, 28, 33]) m (uI m1 187 16 (0 : Int32)) := f_m1.i rfl
    exact ⟨w10, f10, _, rfl⟩
  · intro c11
    have r12 := w_m1.at (a := 187) (k := 1) rfl
    have c13 : ¬ (m1.1 187 1) ≤ (0 : Int32) := c11
    have k14 := y_nler (n := 0) rfl c13
    have w15 : WT (uI m1 187 16 (0 : Int32)) := w_m1.t rfl (by show (0 : Int) ≤ (0 : Int); omega) (by show (0 : Int) ≤ 16; omega)
    have f15 : Fx (RS [20, 22, 26, 28, 33]) m (uI m1 187 16 (0 : Int32)) := f_m1.i rfl
    refine (s_X12_tell w15 (by show (0 : Int) ≤ 15; omega)).to ?_
    rintro _ m3 ⟨w_m3, g16, rfl, p17⟩
    have f_m3 : Fx (RS [20, 22, 26, 28, 33]) m m3 := f15.tr g16 (RS_sub rfl)
    have p18 : (m3.1 187 16).toInt = (0 : Int) + 1 := p17
    clear p17
    have e19 : (m3.1 187 1).toInt = ((m1.1 187 1)).toInt := congrArg _ (g16.at (a := 187) (k := 1) (by decide))
    have e20 : (m3.1 187 0).toInt = ((m1.1 187 0)).toInt := congrArg _ (g16.at (a := 187) (k := 0) (by decide))
    refine ⟨rfl, ?_⟩
    have r21 := w_m3.at (a := 187) (k := 16) rfl
    refine (s_X12_tell w_m3 (by show ((m3.1 187 16)).toInt ≤ 15; omega)).to ?_
    rintro _ m4 ⟨w_m4, g22, rfl, p23⟩
    have f_m4 : Fx (RS [20, 22, 26, 28, 33]) m m4 := f_m3.tr g22 (RS_sub rfl)
    have p24 : (m4.1 187 16).toInt = ((m3.1 187 16)).toInt + 1 := p23
    clear p23
    have e25 : (m4.1 187 1).toInt = ((m3.1 187 1)).toInt := congrArg _ (g22.at (a := 187) (k := 1) (by decide))
    have e26 : (m4.1 187 0).toInt = ((m3.1 187 0)).toInt := congrArg _ (g22.at (a := 187) (k := 0) (by decide))
    refine ⟨rfl, ?_⟩
    exact ⟨w_m4, f_m4, _, rfl⟩
set_option maxHeartbeats 4000000 in
theorem l_X12_swap {ad : Nat → Nat} {d : Nat} {m0 : Wm}  : ∀ n : Nat, (∀ (m : Wm) (x1 x2 x3 : Int32), WT m → Fx (RS [20, 24, 29]) m0 m → (0 : Int) ≤ x1.toInt → x1.toInt ≤ (7 : Int) → (0 : Int) ≤ x2.toInt → x2.toInt ≤ (7 : Int) → (0 : Int) ≤ x3.toInt → x3.toInt ≤ (4 : Int) → (x1.toInt < (m0.1 187 1).toInt ∧ x2.toInt < (m0.1 187 1).toInt ∧ x1.toInt ≠ x2.toInt) → 4 - x3.toInt < (n : Int) → AW ad E0 μX12_swap (d + 3) (fun r m' => WT m' ∧ Fx (RS [20, 24, 29]) m0 m' ∧ ∃ v : Int32, r = some (.int v) ∧ (0 : Int) ≤ v.toInt ∧ v.toInt ≤ 1 ∧ ((v.toInt = 0 ∧ (x1.toInt < 0 ∨ (m0.1 187 1).toInt ≤ x1.toInt ∨ x2.toInt < 0 ∨ (m0.1 187 1).toInt ≤ x2.toInt ∨ x1.toInt = x2.toInt)) ∨ (v.toInt = 1 ∧ 0 ≤ x1.toInt ∧ x1.toInt < (m0.1 187 1).toInt ∧ 0 ≤ x2.toInt ∧ x2.toInt < (m0.1 187 1).toInt ∧ x1.toInt ≠ x2.toInt))) 18 [(0, .ref (ad 187)), (1, .int x1), (2, .int x2), (3, .int x3)] [] m) := by
  intro n
  induction n with
  | zero =>
    intros
    exfalso
    omega
  | succ n ih =>
    intro m x1 x2 x3 w f j1 j2 j3 j4 j5 j6 j7 hn
    refine g_X12_swap_18  ?_
    refine ⟨?_, ?_⟩
    · intro c1
      have k2 := y_lel (n := 4) rfl c1
      have w3 : WT (uI m 187 30 (0 : Int32)) := w.t rfl (by show (0 : Int) ≤ (0 : Int); omega) (by show (0 : Int) ≤ 20; omega)
      have f3 : Fx (RS [20, 24, 29]) m0 (uI m 187 30 (0 : Int32)) := f.i rfl
      exact ⟨w3, f3, _, rfl, (by show (0 : Int) ≤ (1 : Int); omega), (by show (1 : Int) ≤ (1 : Int); omega), (by show ((1 : Int) = 0 ∧ (x1.toInt < 0 ∨ (m0.1 187 1).toInt ≤ x1.toInt ∨ x2.toInt < 0 ∨ (m0.1 187 1).toInt ≤ x2.toInt ∨ x1.toInt = x2.toInt)) ∨ ((1 : Int) = 1 ∧ 0 ≤ x1.toInt ∧ x1.toInt < (m0.1 187 1).toInt ∧ 0 ≤ x2.toInt ∧ x2.toInt < (m0.1 187 1).toInt ∧ x1.toInt ≠ x2.toInt); omega)⟩
    · intro c4
      have k5 := y_nlel (n := 4) rfl c4
      refine ⟨?_, ?_⟩
      · have t6 := ti_mulc (c := 4) (y := (4 : Int32)) (x := x1) rfl (by omega)
        have t7 := ti_add (x := ((4 : Int32) * x1)) (y := x3) (by omega)
        exact vpi (by omega) (by omega)
      · refine ⟨?_, ?_⟩
        · have t8 := ti_mulc (c := 4) (y := (4 : Int32)) (x := x2) rfl (by omega)
          have t9 := ti_add (x := ((4 : Int32) * x2)) (y := x3) (by omega)
          exact vpi (by omega) (by omega)
        · refine ⟨?_, ?_⟩
          · have t10 := ti_mulc (c := 4) (y := (4 : Int32)) (x := x1) rfl (by omega)
            have t11 := ti_add (x := ((4 : Int32) * x1)) (y := x3) (by omega)
            exact vpi (by omega) (by omega)
          · refine ⟨?_, ?_⟩
            · have t12 := ti_mulc (c := 4) (y := (4 : Int32)) (x := x2) rfl (by omega)
              have t13 := ti_add (x := ((4 : Int32) * x2)) (y := x3) (by omega)
              exact vpi (by omega) (by omega)
            · have w14 : WT (uI m 188 ((((4 : Int32) * x1) + x3).toNatClampNeg) (m.1 188 ((((4 : Int32) * x2) + x3).toNatClampNeg))) := w.n rfl
              have f14 : Fx (RS [20, 24, 29]) m0 (uI m 188 ((((4 : Int32) * x1) + x3).toNatClampNeg) (m.1 188 ((((4 : Int32) * x2) + x3).toNatClampNeg))) := f.i rfl
              have w15 : WT (uI (uI m 188 ((((4 : Int32) * x1) + x3).toNatClampNeg) (m.1 188 ((((4 : Int32) * x2) + x3).toNatClampNeg))) 188 ((((4 : Int32) * x2) + x3).toNatClampNeg) (m.1 188 ((((4 : Int32) * x1) + x3).toNatClampNeg))) := w14.n rfl
              have f15 : Fx (RS [20, 24, 29]) m0 (uI (uI m 188 ((((4 : Int32) * x1) + x3).toNatClampNeg) (m.1 188 ((((4 : Int32) * x2) + x3).toNatClampNeg))) 188 ((((4 : Int32) * x2) + x3).toNatClampNeg) (m.1 188 ((((4 : Int32) * x1) + x3).toNatClampNeg))) := f14.i rfl
              have t16 := ti_addc (x := x3) (y := (1 : Int32)) (c := 1) rfl (by omega)
              exact ih _ _ _ _ w15 f15 (by show (0 : Int) ≤ (x1).toInt; omega) (by show (x1).toInt ≤ (7 : Int); omega) (by show (0 : Int) ≤ (x2).toInt; omega) (by show (x2).toInt ≤ (7 : Int); omega) (by show (0 : Int) ≤ ((x3 + (1 : Int32))).toInt; omega) (by show ((x3 + (1 : Int32))).toInt ≤ (4 : Int); omega) (by show (x1).toInt < (m0.1 187 1).toInt ∧ (x2).toInt < (m0.1 187 1).toInt ∧ (x1).toInt ≠ (x2).toInt; omega) (by show 4 - ((x3 + (1 : Int32))).toInt < _; omega)
set_option maxHeartbeats 4000000 in
theorem s_X12_swap {ad : Nat → Nat} {d : Nat} {m : Wm} {x1 x2 : Int32} (w : WT m) : Ct ad μX12_swap (d + 3) [.ref (ad 187), .int x1, .int x2] m (fun r m' => WT m' ∧ Fx (RS [20, 24, 29]) m m' ∧ ∃ v : Int32, r = some (.int v) ∧ (0 : Int) ≤ v.toInt ∧ v.toInt ≤ 1 ∧ ((v.toInt = 0 ∧ (x1.toInt < 0 ∨ (m.1 187 1).toInt ≤ x1.toInt ∨ x2.toInt < 0 ∨ (m.1 187 1).toInt ≤ x2.toInt ∨ x1.toInt = x2.toInt)) ∨ (v.toInt = 1 ∧ 0 ≤ x1.toInt ∧ x1.toInt < (m.1 187 1).toInt ∧ 0 ≤ x2.toInt ∧ x2.toInt < (m.1 187 1).toInt ∧ x1.toInt ≠ x2.toInt))) := by
  have f : Fx (RS [20, 24, 29]) m m := Fx.rf
  refine v_X12_swap  ?_
  have w1 : WT (uI m 187 17 (0 : Int32)) := w.n rfl
  have f1 : Fx (RS [20, 24, 29]) m (uI m 187 17 (0 : Int32)) := f.i rfl
  refine (s_X12_areTwo w1).to ?_
  rintro _ m1 ⟨w_m1, g2, v2, rfl, p4, p5, p3⟩
  have f_m1 : Fx (RS [20, 24, 29]) m m1 := f1.tr g2 (RS_sub rfl)
  have p6 : (v2.toInt = 0 ∧ ((x1).toInt < 0 ∨ ((m.1 187 1)).toInt ≤ (x1).toInt ∨ (x2).toInt < 0 ∨ ((m.1 187 1)).toInt ≤ (x2).toInt ∨ (x1).toInt = (x2).toInt)) ∨ (v2.toInt = 1 ∧ 0 ≤ (x1).toInt ∧ (x1).toInt < ((m.1 187 1)).toInt ∧ 0 ≤ (x2).toInt ∧ (x2).toInt < ((m.1 187 1)).toInt ∧ (x1).toInt ≠ (x2).toInt) := p3
  clear p3
  have e7 : (m1.1 187 1).toInt = ((m.1 187 1)).toInt := congrArg _ (g2.at (a := 187) (k := 1) (by decide))
  have e8 : (m1.1 187 0).toInt = ((m.1 187 0)).toInt := congrArg _ (g2.at (a := 187) (k := 0) (by decide))
  refine ⟨v2, rfl, ?_⟩
  refine ⟨?_, ?_⟩
  · intro c9
    have k10 := y_ner (n := 0) rfl c9
    have r11 := w.at (a := 187) (k := 1) rfl
    exact (l_X12_swap (m0 := m) 1000000) _ _ _ _ w_m1 f_m1 (by show (0 : Int) ≤ (x1).toInt; omega) (by show (x1).toInt ≤ (7 : Int); omega) (by show (0 : Int) ≤ (x2).toInt; omega) (by show (x2).toInt ≤ (7 : Int); omega) (by show (0 : Int) ≤ (0 : Int); omega) (by show (0 : Int) ≤ (4 : Int); omega) (by show (x1).toInt < (m.1 187 1).toInt ∧ (x2).toInt < (m.1 187 1).toInt ∧ (x1).toInt ≠ (x2).toInt; omega) (by show 4 - (0 : Int) < _; omega)
  · intro c12
    have k13 := y_eqr (n := 0) rfl c12
    exact ⟨w_m1, f_m1, _, rfl, (by show (0 : Int) ≤ (0 : Int); omega), (by show (0 : Int) ≤ (1 : Int); omega), (by show ((0 : Int) = 0 ∧ (x1.toInt < 0 ∨ (m.1 187 1).toInt ≤ x1.toInt ∨ x2.toInt < 0 ∨ (m.1 187 1).toInt ≤ x2.toInt ∨ x1.toInt = x2.toInt)) ∨ ((0 : Int) = 1 ∧ 0 ≤ x1.toInt ∧ x1.toInt < (m.1 187 1).toInt ∧ 0 ≤ x2.toInt ∧ x2.toInt < (m.1 187 1).toInt ∧ x1.toInt ≠ x2.toInt); omega)⟩
set_option maxHeartbeats 4000000 in
theorem l_X12_beatenBy {ad : Nat → Nat} {d : Nat} {m0 : Wm}  : ∀ n : Nat, (∀ (m : Wm) (x1 x2 x3 : Int32), WT m → Fx (RS [22, 28]) m0 m → (0 : Int) ≤ x1.toInt → x1.toInt ≤ (7 : Int) → (0 : Int) ≤ x3.toInt → x3.toInt ≤ (8 : Int) → 8 - x3.toInt < (n : Int) → AW ad E0 μX12_beatenBy (d + 170) (fun r m' => WT m' ∧ Fx (RS [22, 28]) m0 m' ∧ ∃ v : Int32, r = some (.int v)) 4 [(0, .ref (ad 187)), (1, .int x1), (2, .int x2), (3, .int x3)] [] m) := by
  intro n
  induction n with
  | zero =>
    intros
    exfalso
    omega
  | succ n ih =>
    intro m x1 x2 x3 w f j1 j2 j3 j4 hn
    refine g_X12_beatenBy_4  ?_
    refine ⟨?_, ?_⟩
    · intro c1
      have r2 := w.at (a := 187) (k := 1) rfl
      have k3 := z_le c1
      exact ⟨w, f, _, rfl⟩
    · intro c4
      have r5 := w.at (a := 187) (k := 1) rfl
      have k6 := z_nle c4
      refine ⟨?_, ?_⟩
      · intro c7
        have k8 := z_eq c7
        have t9 := ti_addc (x := x3) (y := (1 : Int32)) (c := 1) rfl (by omega)
        exact ih _ _ _ _ w f (by show (0 : Int) ≤ (x1).toInt; omega) (by show (x1).toInt ≤ (7 : Int); omega) (by show (0 : Int) ≤ ((x3 + (1 : Int32))).toInt; omega) (by show ((x3 + (1 : Int32))).toInt ≤ (8 : Int); omega) (by show 8 - ((x3 + (1 : Int32))).toInt < _; omega)
      · intro c10
        have k11 := z_ne c10
        refine (s_X12_winner w (by show (0 : Int) ≤ (x1).toInt; omega) (by show (x1).toInt ≤ (7 : Int); omega) (by show (0 : Int) ≤ (x3).toInt; omega) (by show (x3).toInt ≤ (7 : Int); omega)).to ?_
        rintro _ m1 ⟨w_m1, g12, v2, rfl, p13, p14⟩
        have f_m1 : Fx (RS [22, 28]) m0 m1 := f.tr g12 (RS_sub rfl)
        have e15 : (m1.1 187 1).toInt = ((m.1 187 1)).toInt := congrArg _ (g12.at (a := 187) (k := 1) (by decide))
        have e16 : (m1.1 187 0).toInt = ((m.1 187 0)).toInt := congrArg _ (g12.at (a := 187) (k := 0) (by decide))
        refine ⟨v2, rfl, ?_⟩
        refine ⟨?_, ?_⟩
        · intro c17
          have k18 := y_ner (n := 0) rfl c17
          have t19 := ti_addc (x := x3) (y := (1 : Int32)) (c := 1) rfl (by omega)
          exact ih _ _ _ _ w_m1 f_m1 (by show (0 : Int) ≤ (x1).toInt; omega) (by show (x1).toInt ≤ (7 : Int); omega) (by show (0 : Int) ≤ ((x3 + (1 : Int32))).toInt; omega) (by show ((x3 + (1 : Int32))).toInt ≤ (8 : Int); omega) (by show 8 - ((x3 + (1 : Int32))).toInt < _; omega)
        · intro c20
          have k21 := y_eqr (n := 0) rfl c20
          have t22 := ti_addc (x := x3) (y := (1 : Int32)) (c := 1) rfl (by omega)
          exact ih _ _ _ _ w_m1 f_m1 (by show (0 : Int) ≤ (x1).toInt; omega) (by show (x1).toInt ≤ (7 : Int); omega) (by show (0 : Int) ≤ ((x3 + (1 : Int32))).toInt; omega) (by show ((x3 + (1 : Int32))).toInt ≤ (8 : Int); omega) (by show 8 - ((x3 + (1 : Int32))).toInt < _; omega)
set_option maxHeartbeats 4000000 in
theorem s_X12_beatenBy {ad : Nat → Nat} {d : Nat} {m : Wm} {x1 : Int32} (w : WT m) (i1 : (0 : Int) ≤ x1.toInt) (i2 : x1.toInt ≤ (7 : Int)) : Ct ad μX12_beatenBy (d + 170) [.ref (ad 187), .int x1] m (fun r m' => WT m' ∧ Fx (RS [22, 28]) m m' ∧ ∃ v : Int32, r = some (.int v)) := by
  have f : Fx (RS [22, 28]) m m := Fx.rf
  refine v_X12_beatenBy  ?_
  exact (l_X12_beatenBy (m0 := m) 1000000) _ _ _ _ w f (by show (0 : Int) ≤ (x1).toInt; omega) (by show (x1).toInt ≤ (7 : Int); omega) (by show (0 : Int) ≤ (0 : Int); omega) (by show (0 : Int) ≤ (8 : Int); omega) (by show 8 - (0 : Int) < _; omega)
set_option maxHeartbeats 4000000 in
theorem l_X12_beats {ad : Nat → Nat} {d : Nat} {m0 : Wm}  : ∀ n : Nat, (∀ (m : Wm) (x1 x2 x3 : Int32), WT m → Fx (RS [20, 22, 26, 28]) m0 m → (0 : Int) ≤ x1.toInt → x1.toInt ≤ (7 : Int) → (0 : Int) ≤ x3.toInt → x3.toInt ≤ (8 : Int) → 8 - x3.toInt < (n : Int) → AW ad E0 μX12_beats (d + 171) (fun r m' => WT m' ∧ Fx (RS [20, 22, 26, 28]) m0 m' ∧ ∃ v : Int32, r = some (.int v)) 19 [(0, .ref (ad 187)), (1, .int x1), (2, .int x2), (3, .int x3)] [] m) := by
  intro n
  induction n with
  | zero =>
    intros
    exfalso
    omega
  | succ n ih =>
    intro m x1 x2 x3 w f j1 j2 j3 j4 hn
    refine g_X12_beats_19  ?_
    refine ⟨?_, ?_⟩
    · intro c1
      have r2 := w.at (a := 187) (k := 1) rfl
      have k3 := z_le c1
      have w4 : WT (uI m 187 16 (0 : Int32)) := w.t rfl (by show (0 : Int) ≤ (0 : Int); omega) (by show (0 : Int) ≤ 16; omega)
      have f4 : Fx (RS [20, 22, 26, 28]) m0 (uI m 187 16 (0 : Int32)) := f.i rfl
      refine (s_X12_tell w4 (by show (0 : Int) ≤ 15; omega)).to ?_
      rintro _ m1 ⟨w_m1, g5, rfl, p6⟩
      have f_m1 : Fx (RS [20, 22, 26, 28]) m0 m1 := f4.tr g5 (RS_sub rfl)
      have p7 : (m1.1 187 16).toInt = (0 : Int) + 1 := p6
      clear p6
      have e8 : (m1.1 187 1).toInt = ((m.1 187 1)).toInt := congrArg _ (g5.at (a := 187) (k := 1) (by decide))
      have e9 : (m1.1 187 0).toInt = ((m.1 187 0)).toInt := congrArg _ (g5.at (a := 187) (k := 0) (by decide))
      refine ⟨rfl, ?_⟩
      refine (s_X12_beatenBy w_m1 (by show (0 : Int) ≤ (x1).toInt; omega) (by show (x1).toInt ≤ (7 : Int); omega)).to ?_
      rintro _ m2 ⟨w_m2, g10, v3, rfl⟩
      have f_m2 : Fx (RS [20, 22, 26, 28]) m0 m2 := f_m1.tr g10 (RS_sub rfl)
      have e11 : (m2.1 187 16).toInt = ((m1.1 187 16)).toInt := congrArg _ (g10.at (a := 187) (k := 16) (by decide))
      have e12 : (m2.1 187 1).toInt = ((m1.1 187 1)).toInt := congrArg _ (g10.at (a := 187) (k := 1) (by decide))
      have e13 : (m2.1 187 0).toInt = ((m1.1 187 0)).toInt := congrArg _ (g10.at (a := 187) (k := 0) (by decide))
      refine ⟨v3, rfl, ?_⟩
      exact ⟨w_m2, f_m2, _, rfl⟩
    · intro c14
      have r15 := w.at (a := 187) (k := 1) rfl
      have k16 := z_nle c14
      refine ⟨?_, ?_⟩
      · intro c17
        have k18 := z_eq c17
        have t19 := ti_addc (x := x3) (y := (1 : Int32)) (c := 1) rfl (by omega)
        exact ih _ _ _ _ w f (by show (0 : Int) ≤ (x1).toInt; omega) (by show (x1).toInt ≤ (7 : Int); omega) (by show (0 : Int) ≤ ((x3 + (1 : Int32))).toInt; omega) (by show ((x3 + (1 : Int32))).toInt ≤ (8 : Int); omega) (by show 8 - ((x3 + (1 : Int32))).toInt < _; omega)
      · intro c20
        have k21 := z_ne c20
        refine (s_X12_winner w (by show (0 : Int) ≤ (x1).toInt; omega) (by show (x1).toInt ≤ (7 : Int); omega) (by show (0 : Int) ≤ (x3).toInt; omega) (by show (x3).toInt ≤ (7 : Int); omega)).to ?_
        rintro _ m4 ⟨w_m4, g22, v5, rfl, p23, p24⟩
        have f_m4 : Fx (RS [20, 22, 26, 28]) m0 m4 := f.tr g22 (RS_sub rfl)
        have e25 : (m4.1 187 16).toInt = ((m.1 187 16)).toInt := congrArg _ (g22.at (a := 187) (k := 16) (by decide))
        have e26 : (m4.1 187 1).toInt = ((m.1 187 1)).toInt := congrArg _ (g22.at (a := 187) (k := 1) (by decide))
        have e27 : (m4.1 187 0).toInt = ((m.1 187 0)).toInt := congrArg _ (g22.at (a := 187) (k := 0) (by decide))
        refine ⟨v5, rfl, ?_⟩
        refine ⟨?_, ?_⟩
        · intro c28
          have k29 := y_ner (n := 2) rfl c28
          have t30 := ti_addc (x := x3) (y := (1 : Int32)) (c := 1) rfl (by omega)
          exact ih _ _ _ _ w_m4 f_m4 (by show (0 : Int) ≤ (x1).toInt; omega) (by show (x1).toInt ≤ (7 : Int); omega) (by show (0 : Int) ≤ ((x3 + (1 : Int32))).toInt; omega) (by show ((x3 + (1 : Int32))).toInt ≤ (8 : Int); omega) (by show 8 - ((x3 + (1 : Int32))).toInt < _; omega)
        · intro c31
          have k32 := y_eqr (n := 2) rfl c31
          have t33 := ti_addc (x := x3) (y := (1 : Int32)) (c := 1) rfl (by omega)
          exact ih _ _ _ _ w_m4 f_m4 (by show (0 : Int) ≤ (x1).toInt; omega) (by show (x1).toInt ≤ (7 : Int); omega) (by show (0 : Int) ≤ ((x3 + (1 : Int32))).toInt; omega) (by show ((x3 + (1 : Int32))).toInt ≤ (8 : Int); omega) (by show 8 - ((x3 + (1 : Int32))).toInt < _; omega)
set_option maxHeartbeats 4000000 in
theorem s_X12_beats {ad : Nat → Nat} {d : Nat} {m : Wm} {x1 : Int32} (w : WT m) : Ct ad μX12_beats (d + 171) [.ref (ad 187), .int x1] m (fun r m' => WT m' ∧ Fx (RS [20, 22, 26, 28]) m m' ∧ ∃ v : Int32, r = some (.int v)) := by
  have f : Fx (RS [20, 22, 26, 28]) m m := Fx.rf
  refine v_X12_beats  ?_
  have w1 : WT (uI m 187 17 (0 : Int32)) := w.n rfl
  have f1 : Fx (RS [20, 22, 26, 28]) m (uI m 187 17 (0 : Int32)) := f.i rfl
  refine (s_X12_isSide w1).to ?_
  rintro _ m1 ⟨w_m1, g2, v2, rfl, p4, p5, p3⟩
  have f_m1 : Fx (RS [20, 22, 26, 28]) m m1 := f1.tr g2 (RS_sub rfl)
  have p6 : (v2.toInt = 0 ∧ ((x1).toInt < 0 ∨ ((m.1 187 1)).toInt ≤ (x1).toInt)) ∨ (v2.toInt = 1 ∧ 0 ≤ (x1).toInt ∧ (x1).toInt < ((m.1 187 1)).toInt) := p3
  clear p3
  have e7 : (m1.1 187 16).toInt = ((m.1 187 16)).toInt := congrArg _ (g2.at (a := 187) (k := 16) (by decide))
  have e8 : (m1.1 187 1).toInt = ((m.1 187 1)).toInt := congrArg _ (g2.at (a := 187) (k := 1) (by decide))
  have e9 : (m1.1 187 0).toInt = ((m.1 187 0)).toInt := congrArg _ (g2.at (a := 187) (k := 0) (by decide))
  refine ⟨v2, rfl, ?_⟩
  refine ⟨?_, ?_⟩
  · intro c10
    have k11 := y_ner (n := 0) rfl c10
    have r12 := w.at (a := 187) (k := 1) rfl
    exact (l_X12_beats (m0 := m) 1000000) _ _ _ _ w_m1 f_m1 (by show (0 : Int) ≤ (x1).toInt; omega) (by show (x1).toInt ≤ (7 : Int); omega) (by show (0 : Int) ≤ (0 : Int); omega) (by show (0 : Int) ≤ (8 : Int); omega) (by show 8 - (0 : Int) < _; omega)
  · intro c13
    have k14 := y_eqr (n := 0) rfl c13
    exact ⟨w_m1, f_m1, _, rfl⟩
set_option maxHeartbeats 4000000 in
theorem l_X12_kings {ad : Nat → Nat} {d : Nat} {m0 : Wm}  : ∀ n : Nat, (∀ (m : Wm) (x1 x2 x3 : Int32), WT m → Fx (RS [20, 22, 26, 28]) m0 m → (0 : Int) ≤ x3.toInt → x3.toInt ≤ (8 : Int) → (8 - x3.toInt) * 100 + 50 < (n : Int) → AW ad E0 μX12_kings (d + 171) (fun r m' => WT m' ∧ Fx (RS [20, 22, 26, 28]) m0 m' ∧ ∃ v : Int32, r = some (.int v)) 11 [(0, .ref (ad 187)), (1, .int x1), (2, .int x2), (3, .int x3)] [] m) ∧ (∀ (m : Wm) (x1 x2 x3 x4 x5 x6 : Int32), WT m → Fx (RS [20, 22, 26, 28]) m0 m → (0 : Int) ≤ x3.toInt → x3.toInt ≤ (7 : Int) → (0 : Int) ≤ x6.toInt → x6.toInt ≤ (8 : Int) → (8 - x3.toInt) * 100 + 20 - x6.toInt < (n : Int) → AW ad E0 μX12_kings (d + 171) (fun r m' => WT m' ∧ Fx (RS [20, 22, 26, 28]) m0 m' ∧ ∃ v : Int32, r = some (.int v)) 37 [(0, .ref (ad 187)), (1, .int x1), (2, .int x2), (3, .int x3), (4, .int x4), (5, .int x5), (6, .int x6)] [] m) ∧ (∀ (m : Wm) (x2 x3 x4 s0 s1 : Int32), WT m → Fx (RS [20, 22, 26, 28]) m0 m → (0 : Int) ≤ x3.toInt → x3.toInt ≤ (7 : Int) → (8 - x3.toInt) * 100 < (n : Int) → AW ad E0 μX12_kings (d + 171) (fun r m' => WT m' ∧ Fx (RS [20, 22, 26, 28]) m0 m' ∧ ∃ v : Int32, r = some (.int v)) 98 [(0, .ref (ad 187)), (2, .int x2), (3, .int x3), (4, .int x4)] [.int s0, .int s1] m) := by
  intro n
  induction n with
  | zero =>
    refine ⟨?_, ?_, ?_⟩ <;> intros <;> exfalso <;> omega
  | succ n ih =>
    refine ⟨?_, ?_, ?_⟩
    · intro m x1 x2 x3 w f j1 j2 hn
      refine g_X12_kings_11  ?_
      refine ⟨?_, ?_⟩
      · intro c1
        have r2 := w.at (a := 187) (k := 1) rfl
        have k3 := z_le c1
        have w4 : WT (uI m 187 16 (0 : Int32)) := w.t rfl (by show (0 : Int) ≤ (0 : Int); omega) (by show (0 : Int) ≤ 16; omega)
        have f4 : Fx (RS [20, 22, 26, 28]) m0 (uI m 187 16 (0 : Int32)) := f.i rfl
        refine (s_X12_tell w4 (by show (0 : Int) ≤ 15; omega)).to ?_
        rintro _ m1 ⟨w_m1, g5, rfl, p6⟩
        have f_m1 : Fx (RS [20, 22, 26, 28]) m0 m1 := f4.tr g5 (RS_sub rfl)
        have p7 : (m1.1 187 16).toInt = (0 : Int) + 1 := p6
        clear p6
        have e8 : (m1.1 187 1).toInt = ((m.1 187 1)).toInt := congrArg _ (g5.at (a := 187) (k := 1) (by decide))
        have e9 : (m1.1 187 0).toInt = ((m.1 187 0)).toInt := congrArg _ (g5.at (a := 187) (k := 0) (by decide))
        refine ⟨rfl, ?_⟩
        exact ⟨w_m1, f_m1, _, rfl⟩
      · intro c10
        have r11 := w.at (a := 187) (k := 1) rfl
        have k12 := z_nle c10
        refine (s_X12_beatenBy w (by show (0 : Int) ≤ (x3).toInt; omega) (by show (x3).toInt ≤ (7 : Int); omega)).to ?_
        rintro _ m2 ⟨w_m2, g13, v3, rfl⟩
        have f_m2 : Fx (RS [20, 22, 26, 28]) m0 m2 := f.tr g13 (RS_sub rfl)
        have e14 : (m2.1 187 16).toInt = ((m.1 187 16)).toInt := congrArg _ (g13.at (a := 187) (k := 16) (by decide))
        have e15 : (m2.1 187 1).toInt = ((m.1 187 1)).toInt := congrArg _ (g13.at (a := 187) (k := 1) (by decide))
        have e16 : (m2.1 187 0).toInt = ((m.1 187 0)).toInt := congrArg _ (g13.at (a := 187) (k := 0) (by decide))
        refine ⟨v3, rfl, ?_⟩
        exact ih.2.1 _ _ _ _ _ _ _ w_m2 f_m2 (by show (0 : Int) ≤ (x3).toInt; omega) (by show (x3).toInt ≤ (7 : Int); omega) (by show (0 : Int) ≤ (0 : Int); omega) (by show (0 : Int) ≤ (8 : Int); omega) (by show (8 - (x3).toInt) * 100 + 20 - (0 : Int) < _; omega)
    · intro m x1 x2 x3 x4 x5 x6 w f j1 j2 j3 j4 hn
      refine g_X12_kings_37  ?_
      refine ⟨?_, ?_⟩
      · intro c1
        have r2 := w.at (a := 187) (k := 1) rfl
        have k3 := z_le c1
        refine ⟨?_, ?_⟩
        · intro c4
          have k5 := z_ne c4
          exact ih.2.2 _ _ _ _ _ _ w f (by show (0 : Int) ≤ (x3).toInt; omega) (by show (x3).toInt ≤ (7 : Int); omega) (by show (8 - (x3).toInt) * 100 < _; omega)
        · intro c6
          have k7 := z_eq c6
          exact ih.2.2 _ _ _ _ _ _ w f (by show (0 : Int) ≤ (x3).toInt; omega) (by show (x3).toInt ≤ (7 : Int); omega) (by show (8 - (x3).toInt) * 100 < _; omega)
      · intro c8
        have r9 := w.at (a := 187) (k := 1) rfl
        have k10 := z_nle c8
        refine (s_X12_has w).to ?_
        rintro _ m1 ⟨w_m1, g11, v2, rfl, p12, p13⟩
        have f_m1 : Fx (RS [20, 22, 26, 28]) m0 m1 := f.tr g11 (RS_sub rfl)
        have e14 : (m1.1 187 16).toInt = ((m.1 187 16)).toInt := congrArg _ (g11.at (a := 187) (k := 16) (by decide))
        have e15 : (m1.1 187 1).toInt = ((m.1 187 1)).toInt := congrArg _ (g11.at (a := 187) (k := 1) (by decide))
        have e16 : (m1.1 187 0).toInt = ((m.1 187 0)).toInt := congrArg _ (g11.at (a := 187) (k := 0) (by decide))
        refine ⟨v2, rfl, ?_⟩
        refine ⟨?_, ?_⟩
        · intro c17
          have k18 := y_eqr (n := 0) rfl c17
          have t19 := ti_addc (x := x6) (y := (1 : Int32)) (c := 1) rfl (by omega)
          exact ih.2.1 _ _ _ _ _ _ _ w_m1 f_m1 (by show (0 : Int) ≤ (x3).toInt; omega) (by show (x3).toInt ≤ (7 : Int); omega) (by show (0 : Int) ≤ ((x6 + (1 : Int32))).toInt; omega) (by show ((x6 + (1 : Int32))).toInt ≤ (8 : Int); omega) (by show (8 - (x3).toInt) * 100 + 20 - ((x6 + (1 : Int32))).toInt < _; omega)
        · intro c20
          have k21 := y_ner (n := 0) rfl c20
          refine (s_X12_beatenBy w_m1 (by show (0 : Int) ≤ (x6).toInt; omega) (by show (x6).toInt ≤ (7 : Int); omega)).to ?_
          rintro _ m3 ⟨w_m3, g22, v4, rfl⟩
          have f_m3 : Fx (RS [20, 22, 26, 28]) m0 m3 := f_m1.tr g22 (RS_sub rfl)
          have e23 : (m3.1 187 16).toInt = ((m1.1 187 16)).toInt := congrArg _ (g22.at (a := 187) (k := 16) (by decide))
          have e24 : (m3.1 187 1).toInt = ((m1.1 187 1)).toInt := congrArg _ (g22.at (a := 187) (k := 1) (by decide))
          have e25 : (m3.1 187 0).toInt = ((m1.1 187 0)).toInt := congrArg _ (g22.at (a := 187) (k := 0) (by decide))
          refine ⟨v4, rfl, ?_⟩
          have t26 := ti_addc (x := x6) (y := (1 : Int32)) (c := 1) rfl (by omega)
          exact ih.2.1 _ _ _ _ _ _ _ w_m3 f_m3 (by show (0 : Int) ≤ (x3).toInt; omega) (by show (x3).toInt ≤ (7 : Int); omega) (by show (0 : Int) ≤ ((x6 + (1 : Int32))).toInt; omega) (by show ((x6 + (1 : Int32))).toInt ≤ (8 : Int); omega) (by show (8 - (x3).toInt) * 100 + 20 - ((x6 + (1 : Int32))).toInt < _; omega)
    · intro m x2 x3 x4 s0 s1 w f j1 j2 hn
      refine g_X12_kings_98  ?_
      refine ⟨?_, ?_⟩
      · intro c1
        have k2 := y_ner (n := 0) rfl c1
        have t3 := ti_addc (x := x3) (y := (1 : Int32)) (c := 1) rfl (by omega)
        exact ih.1 _ _ _ _ w f (by show (0 : Int) ≤ ((x3 + (1 : Int32))).toInt; omega) (by show ((x3 + (1 : Int32))).toInt ≤ (8 : Int); omega) (by show (8 - ((x3 + (1 : Int32))).toInt) * 100 + 50 < _; omega)
      · intro c4
        have k5 := y_eqr (n := 0) rfl c4
        have t6 := ti_addc (x := x3) (y := (1 : Int32)) (c := 1) rfl (by omega)
        exact ih.1 _ _ _ _ w f (by show (0 : Int) ≤ ((x3 + (1 : Int32))).toInt; omega) (by show ((x3 + (1 : Int32))).toInt ≤ (8 : Int); omega) (by show (8 - ((x3 + (1 : Int32))).toInt) * 100 + 50 < _; omega)
set_option maxHeartbeats 4000000 in
theorem s_X12_kings {ad : Nat → Nat} {d : Nat} {m : Wm} (w : WT m) : Ct ad μX12_kings (d + 171) [.ref (ad 187)] m (fun r m' => WT m' ∧ Fx (RS [20, 22, 26, 28]) m m' ∧ ∃ v : Int32, r = some (.int v)) := by
  have f : Fx (RS [20, 22, 26, 28]) m m := Fx.rf
  refine v_X12_kings  ?_
  have w1 : WT (uI m 187 17 (0 : Int32)) := w.n rfl
  have f1 : Fx (RS [20, 22, 26, 28]) m (uI m 187 17 (0 : Int32)) := f.i rfl
  exact (l_X12_kings (m0 := m) 1000000).1 _ _ _ _ w1 f1 (by show (0 : Int) ≤ (0 : Int); omega) (by show (0 : Int) ≤ (8 : Int); omega) (by show (8 - (0 : Int)) * 100 + 50 < _; omega)
set_option maxHeartbeats 4000000 in
theorem l_X12_master {ad : Nat → Nat} {d : Nat} {m0 : Wm}  : ∀ n : Nat, (∀ (m : Wm) (x1 x2 x3 x4 : Int32), WT m → Fx (RS [20, 26]) m0 m → (0 : Int) ≤ x1.toInt → x1.toInt ≤ (3 : Int) → (0 : Int) ≤ x2.toInt → x2.toInt ≤ (7 : Int) → (0 : Int) ≤ x4.toInt → x4.toInt ≤ (8 : Int) → (8 - x4.toInt) * 2 + 101 < (n : Int) → AW ad E0 μX12_master (d + 2) (fun r m' => WT m' ∧ Fx (RS [20, 26]) m0 m' ∧ ∃ v : Int32, r = some (.int v)) 33 [(0, .ref (ad 187)), (1, .int x1), (2, .int x2), (3, .int x3), (4, .int x4)] [] m) ∧ (∀ (m : Wm) (x1 x2 x3 x4 : Int32), WT m → Fx (RS [20, 26]) m0 m → (0 : Int) ≤ x1.toInt → x1.toInt ≤ (3 : Int) → (0 : Int) ≤ x2.toInt → x2.toInt ≤ (7 : Int) → (0 : Int) ≤ x4.toInt → x4.toInt ≤ (7 : Int) → (8 - x4.toInt) * 2 + 100 < (n : Int) → AW ad E0 μX12_master (d + 2) (fun r m' => WT m' ∧ Fx (RS [20, 26]) m0 m' ∧ ∃ v : Int32, r = some (.int v)) 69 [(0, .ref (ad 187)), (1, .int x1), (2, .int x2), (3, .int x3), (4, .int x4)] [] m) ∧ (∀ (m : Wm) (x1 x2 x3 x4 x5 : Int32), WT m → Fx (RS [20, 26]) m0 m → (0 : Int) ≤ x1.toInt → x1.toInt ≤ (3 : Int) → (0 : Int) ≤ x2.toInt → x2.toInt ≤ (7 : Int) → (0 : Int) ≤ x5.toInt → x5.toInt ≤ (8 : Int) → 8 - x5.toInt < (n : Int) → AW ad E0 μX12_master (d + 2) (fun r m' => WT m' ∧ Fx (RS [20, 26]) m0 m' ∧ ∃ v : Int32, r = some (.int v)) 97 [(0, .ref (ad 187)), (1, .int x1), (2, .int x2), (3, .int x3), (4, .int x4), (5, .int x5)] [] m) := by
  intro n
  induction n with
  | zero =>
    refine ⟨?_, ?_, ?_⟩ <;> intros <;> exfalso <;> omega
  | succ n ih =>
    refine ⟨?_, ?_, ?_⟩
    · intro m x1 x2 x3 x4 w f j1 j2 j3 j4 j5 j6 hn
      refine g_X12_master_33  ?_
      refine ⟨?_, ?_⟩
      · intro c1
        have r2 := w.at (a := 187) (k := 1) rfl
        have k3 := z_le c1
        exact ih.2.2 _ _ _ _ _ _ w f (by show (0 : Int) ≤ (x1).toInt; omega) (by show (x1).toInt ≤ (3 : Int); omega) (by show (0 : Int) ≤ (x2).toInt; omega) (by show (x2).toInt ≤ (7 : Int); omega) (by show (0 : Int) ≤ (0 : Int); omega) (by show (0 : Int) ≤ (8 : Int); omega) (by show 8 - (0 : Int) < _; omega)
      · intro c4
        have r5 := w.at (a := 187) (k := 1) rfl
        have k6 := z_nle c4
        refine ⟨?_, ?_⟩
        · have t7 := ti_mulc (c := 4) (y := (4 : Int32)) (x := x4) rfl (by omega)
          have t8 := ti_add (x := ((4 : Int32) * x4)) (y := x1) (by omega)
          exact vpi (by omega) (by omega)
        · refine ⟨?_, ?_⟩
          · have t9 := ti_mulc (c := 4) (y := (4 : Int32)) (x := x2) rfl (by omega)
            have t10 := ti_add (x := ((4 : Int32) * x2)) (y := x1) (by omega)
            exact vpi (by omega) (by omega)
          · refine ⟨?_, ?_⟩
            · intro c11
              have k12 := z_le c11
              exact ih.2.1 _ _ _ _ _ w f (by show (0 : Int) ≤ (x1).toInt; omega) (by show (x1).toInt ≤ (3 : Int); omega) (by show (0 : Int) ≤ (x2).toInt; omega) (by show (x2).toInt ≤ (7 : Int); omega) (by show (0 : Int) ≤ (x4).toInt; omega) (by show (x4).toInt ≤ (7 : Int); omega) (by show (8 - (x4).toInt) * 2 + 100 < _; omega)
            · intro c13
              have k14 := z_nle c13
              exact ih.2.1 _ _ _ _ _ w f (by show (0 : Int) ≤ (x1).toInt; omega) (by show (x1).toInt ≤ (3 : Int); omega) (by show (0 : Int) ≤ (x4).toInt; omega) (by show (x4).toInt ≤ (7 : Int); omega) (by show (0 : Int) ≤ (x4).toInt; omega) (by show (x4).toInt ≤ (7 : Int); omega) (by show (8 - (x4).toInt) * 2 + 100 < _; omega)
    · intro m x1 x2 x3 x4 w f j1 j2 j3 j4 j5 j6 hn
      refine g_X12_master_69  ?_
      refine ⟨?_, ?_⟩
      · have t1 := ti_mulc (c := 4) (y := (4 : Int32)) (x := x4) rfl (by omega)
        have t2 := ti_add (x := ((4 : Int32) * x4)) (y := x1) (by omega)
        exact vpi (by omega) (by omega)
      · have t3 := ti_addc (x := x4) (y := (1 : Int32)) (c := 1) rfl (by omega)
        exact ih.1 _ _ _ _ _ w f (by show (0 : Int) ≤ (x1).toInt; omega) (by show (x1).toInt ≤ (3 : Int); omega) (by show (0 : Int) ≤ (x2).toInt; omega) (by show (x2).toInt ≤ (7 : Int); omega) (by show (0 : Int) ≤ ((x4 + (1 : Int32))).toInt; omega) (by show ((x4 + (1 : Int32))).toInt ≤ (8 : Int); omega) (by show (8 - ((x4 + (1 : Int32))).toInt) * 2 + 101 < _; omega)
    · intro m x1 x2 x3 x4 x5 w f j1 j2 j3 j4 j5 j6 hn
      refine g_X12_master_97  ?_
      refine ⟨?_, ?_⟩
      · intro c1
        have r2 := w.at (a := 187) (k := 1) rfl
        have k3 := z_le c1
        refine ⟨?_, ?_⟩
        · have t4 := ti_mulc (c := 4) (y := (4 : Int32)) (x := x2) rfl (by omega)
          have t5 := ti_add (x := ((4 : Int32) * x2)) (y := x1) (by omega)
          exact vpi (by omega) (by omega)
        · have w6 : WT (uI m 187 16 (0 : Int32)) := w.t rfl (by show (0 : Int) ≤ (0 : Int); omega) (by show (0 : Int) ≤ 16; omega)
          have f6 : Fx (RS [20, 26]) m0 (uI m 187 16 (0 : Int32)) := f.i rfl
          refine (s_X12_tell w6 (by show (0 : Int) ≤ 15; omega)).to ?_
          rintro _ m1 ⟨w_m1, g7, rfl, p8⟩
          have f_m1 : Fx (RS [20, 26]) m0 m1 := f6.tr g7 (RS_sub rfl)
          have p9 : (m1.1 187 16).toInt = (0 : Int) + 1 := p8
          clear p8
          have e10 : (m1.1 187 1).toInt = ((m.1 187 1)).toInt := congrArg _ (g7.at (a := 187) (k := 1) (by decide))
          have e11 : (m1.1 187 0).toInt = ((m.1 187 0)).toInt := congrArg _ (g7.at (a := 187) (k := 0) (by decide))
          refine ⟨rfl, ?_⟩
          have r12 := w_m1.at (a := 187) (k := 16) rfl
          refine (s_X12_tell w_m1 (by show ((m1.1 187 16)).toInt ≤ 15; omega)).to ?_
          rintro _ m2 ⟨w_m2, g13, rfl, p14⟩
          have f_m2 : Fx (RS [20, 26]) m0 m2 := f_m1.tr g13 (RS_sub rfl)
          have p15 : (m2.1 187 16).toInt = ((m1.1 187 16)).toInt + 1 := p14
          clear p14
          have e16 : (m2.1 187 1).toInt = ((m1.1 187 1)).toInt := congrArg _ (g13.at (a := 187) (k := 1) (by decide))
          have e17 : (m2.1 187 0).toInt = ((m1.1 187 0)).toInt := congrArg _ (g13.at (a := 187) (k := 0) (by decide))
          refine ⟨rfl, ?_⟩
          have r18 := w_m2.at (a := 187) (k := 16) rfl
          refine (s_X12_tell w_m2 (by show ((m2.1 187 16)).toInt ≤ 15; omega)).to ?_
          rintro _ m3 ⟨w_m3, g19, rfl, p20⟩
          have f_m3 : Fx (RS [20, 26]) m0 m3 := f_m2.tr g19 (RS_sub rfl)
          have p21 : (m3.1 187 16).toInt = ((m2.1 187 16)).toInt + 1 := p20
          clear p20
          have e22 : (m3.1 187 1).toInt = ((m2.1 187 1)).toInt := congrArg _ (g19.at (a := 187) (k := 1) (by decide))
          have e23 : (m3.1 187 0).toInt = ((m2.1 187 0)).toInt := congrArg _ (g19.at (a := 187) (k := 0) (by decide))
          refine ⟨rfl, ?_⟩
          exact ⟨w_m3, f_m3, _, rfl⟩
      · intro c24
        have r25 := w.at (a := 187) (k := 1) rfl
        have k26 := z_nle c24
        refine ⟨?_, ?_⟩
        · have t27 := ti_mulc (c := 4) (y := (4 : Int32)) (x := x5) rfl (by omega)
          have t28 := ti_add (x := ((4 : Int32) * x5)) (y := x1) (by omega)
          exact vpi (by omega) (by omega)
        · refine ⟨?_, ?_⟩
          · have t29 := ti_mulc (c := 4) (y := (4 : Int32)) (x := x2) rfl (by omega)
            have t30 := ti_add (x := ((4 : Int32) * x2)) (y := x1) (by omega)
            exact vpi (by omega) (by omega)
          · refine ⟨?_, ?_⟩
            · intro c31
              have k32 := z_ne c31
              have t33 := ti_addc (x := x5) (y := (1 : Int32)) (c := 1) rfl (by omega)
              exact ih.2.2 _ _ _ _ _ _ w f (by show (0 : Int) ≤ (x1).toInt; omega) (by show (x1).toInt ≤ (3 : Int); omega) (by show (0 : Int) ≤ (x2).toInt; omega) (by show (x2).toInt ≤ (7 : Int); omega) (by show (0 : Int) ≤ ((x5 + (1 : Int32))).toInt; omega) (by show ((x5 + (1 : Int32))).toInt ≤ (8 : Int); omega) (by show 8 - ((x5 + (1 : Int32))).toInt < _; omega)
            · intro c34
              have k35 := z_eq c34
              have t36 := ti_addc (x := x5) (y := (1 : Int32)) (c := 1) rfl (by omega)
              exact ih.2.2 _ _ _ _ _ _ w f (by show (0 : Int) ≤ (x1).toInt; omega) (by show (x1).toInt ≤ (3 : Int); omega) (by show (0 : Int) ≤ (x2).toInt; omega) (by show (x2).toInt ≤ (7 : Int); omega) (by show (0 : Int) ≤ ((x5 + (1 : Int32))).toInt; omega) (by show ((x5 + (1 : Int32))).toInt ≤ (8 : Int); omega) (by show 8 - ((x5 + (1 : Int32))).toInt < _; omega)
set_option maxHeartbeats 4000000 in
theorem s_X12_master {ad : Nat → Nat} {d : Nat} {m : Wm} {x1 : Int32} (w : WT m) : Ct ad μX12_master (d + 2) [.ref (ad 187), .int x1] m (fun r m' => WT m' ∧ Fx (RS [20, 26]) m m' ∧ ∃ v : Int32, r = some (.int v)) := by
  have f : Fx (RS [20, 26]) m m := Fx.rf
  refine v_X12_master  ?_
  have w1 : WT (uI m 187 17 (0 : Int32)) := w.n rfl
  have f1 : Fx (RS [20, 26]) m (uI m 187 17 (0 : Int32)) := f.i rfl
  refine (s_X12_isArt w1).to ?_
  rintro _ m1 ⟨w_m1, g2, v2, rfl, p4, p5, p3⟩
  have f_m1 : Fx (RS [20, 26]) m m1 := f1.tr g2 (RS_sub rfl)
  have p6 : (v2.toInt = 0 ∧ ((x1).toInt < 0 ∨ ((m.1 187 0)).toInt ≤ (x1).toInt)) ∨ (v2.toInt = 1 ∧ 0 ≤ (x1).toInt ∧ (x1).toInt < ((m.1 187 0)).toInt) := p3
  clear p3
  have e7 : (m1.1 187 16).toInt = ((m.1 187 16)).toInt := congrArg _ (g2.at (a := 187) (k := 16) (by decide))
  have e8 : (m1.1 187 1).toInt = ((m.1 187 1)).toInt := congrArg _ (g2.at (a := 187) (k := 1) (by decide))
  have e9 : (m1.1 187 0).toInt = ((m.1 187 0)).toInt := congrArg _ (g2.at (a := 187) (k := 0) (by decide))
  refine ⟨v2, rfl, ?_⟩
  refine ⟨?_, ?_⟩
  · intro c10
    have k11 := y_ner (n := 0) rfl c10
    have r12 := w.at (a := 187) (k := 0) rfl
    refine ⟨?_, ?_⟩
    · intro c13
      have r14 := w_m1.at (a := 187) (k := 1) rfl
      have k15 := y_ner (n := 0) rfl c13
      exact (l_X12_master (m0 := m) 1000000).1 _ _ _ _ _ w_m1 f_m1 (by show (0 : Int) ≤ (x1).toInt; omega) (by show (x1).toInt ≤ (3 : Int); omega) (by show (0 : Int) ≤ (0 : Int); omega) (by show (0 : Int) ≤ (7 : Int); omega) (by show (0 : Int) ≤ (0 : Int); omega) (by show (0 : Int) ≤ (8 : Int); omega) (by show (8 - (0 : Int)) * 2 + 101 < _; omega)
    · intro c16
      have r17 := w_m1.at (a := 187) (k := 1) rfl
      have k18 := y_eqr (n := 0) rfl c16
      exact ⟨w_m1, f_m1, _, rfl⟩
  · intro c19
    have k20 := y_eqr (n := 0) rfl c19
    exact ⟨w_m1, f_m1, _, rfl⟩
end
section
/-! SAFETY OF THE MODEL, BY PROGRAM (goQuiet .. row) -/
set_option maxHeartbeats 4000000 in
theorem l_X12_goQuiet {ad : Nat → Nat} {d : Nat} {m0 : Wm}  : ∀ n : Nat, (∀ (m : Wm) (x4 : Int32), WT m → Fx (RS [22, 24, 28]) m0 m → (0 : Int) ≤ x4.toInt → x4.toInt ≤ (8 : Int) → 8 - x4.toInt < (n : Int) → AW ad E0 μX12_goQuiet (d + 170) (fun r m' => WT m' ∧ Fx (RS [22, 24, 28]) m0 m' ∧ r = none) 17 [(0, .ref (ad 187)), (4, .int x4)] [] m) := by
  intro n
  induction n with
  | zero =>
    intros
    exfalso
    omega
  | succ n ih =>
    intro m x4 w f j1 j2 hn
    refine g_X12_goQuiet_17  ?_
    refine ⟨?_, ?_⟩
    · intro c1
      have k2 := y_lel (n := 8) rfl c1
      exact ⟨w, f, rfl⟩
    · intro c3
      have k4 := y_nlel (n := 8) rfl c3
      refine ⟨?_, ?_⟩
      · have t5 := ti_mulc (c := 3) (y := (3 : Int32)) (x := x4) rfl (by omega)
        have t6 := ti_addl (x := (32 : Int32)) (y := ((3 : Int32) * x4)) (c := 32) rfl (by omega)
        exact vpi (by omega) (by omega)
      · refine ⟨?_, ?_⟩
        · exact vpi (by omega) (by omega)
        · refine ⟨?_, ?_⟩
          · have t7 := ti_mulc (c := 3) (y := (3 : Int32)) (x := x4) rfl (by omega)
            have t8 := ti_addl (x := (32 : Int32)) (y := ((3 : Int32) * x4)) (c := 32) rfl (by omega)
            have t9 := ti_addc (x := ((32 : Int32) + ((3 : Int32) * x4))) (y := (1 : Int32)) (c := 1) rfl (by omega)
            exact vpi (by omega) (by omega)
          · refine ⟨?_, ?_⟩
            · exact vpi (by omega) (by omega)
            · refine ⟨?_, ?_⟩
              · have t10 := ti_mulc (c := 3) (y := (3 : Int32)) (x := x4) rfl (by omega)
                have t11 := ti_addl (x := (32 : Int32)) (y := ((3 : Int32) * x4)) (c := 32) rfl (by omega)
                have t12 := ti_addc (x := ((32 : Int32) + ((3 : Int32) * x4))) (y := (2 : Int32)) (c := 2) rfl (by omega)
                exact vpi (by omega) (by omega)
              · refine ⟨?_, ?_⟩
                · exact vpi (by omega) (by omega)
                · have w13 : WT (uI m 190 x4.toNatClampNeg (m.1 204 (((32 : Int32) + ((3 : Int32) * x4)).toNatClampNeg))) := w.n rfl
                  have f13 : Fx (RS [22, 24, 28]) m0 (uI m 190 x4.toNatClampNeg (m.1 204 (((32 : Int32) + ((3 : Int32) * x4)).toNatClampNeg))) := f.i rfl
                  have w14 : WT (uI (uI m 190 x4.toNatClampNeg (m.1 204 (((32 : Int32) + ((3 : Int32) * x4)).toNatClampNeg))) 191 x4.toNatClampNeg ((uI m 190 x4.toNatClampNeg (m.1 204 (((32 : Int32) + ((3 : Int32) * x4)).toNatClampNeg))).1 204 ((((32 : Int32) + ((3 : Int32) * x4)) + (1 : Int32)).toNatClampNeg))) := w13.n rfl
                  have f14 : Fx (RS [22, 24, 28]) m0 (uI (uI m 190 x4.toNatClampNeg (m.1 204 (((32 : Int32) + ((3 : Int32) * x4)).toNatClampNeg))) 191 x4.toNatClampNeg ((uI m 190 x4.toNatClampNeg (m.1 204 (((32 : Int32) + ((3 : Int32) * x4)).toNatClampNeg))).1 204 ((((32 : Int32) + ((3 : Int32) * x4)) + (1 : Int32)).toNatClampNeg))) := f13.i rfl
                  have w15 : WT (uI (uI (uI m 190 x4.toNatClampNeg (m.1 204 (((32 : Int32) + ((3 : Int32) * x4)).toNatClampNeg))) 191 x4.toNatClampNeg ((uI m 190 x4.toNatClampNeg (m.1 204 (((32 : Int32) + ((3 : Int32) * x4)).toNatClampNeg))).1 204 ((((32 : Int32) + ((3 : Int32) * x4)) + (1 : Int32)).toNatClampNeg))) 192 x4.toNatClampNeg ((uI (uI m 190 x4.toNatClampNeg (m.1 204 (((32 : Int32) + ((3 : Int32) * x4)).toNatClampNeg))) 191 x4.toNatClampNeg ((uI m 190 x4.toNatClampNeg (m.1 204 (((32 : Int32) + ((3 : Int32) * x4)).toNatClampNeg))).1 204 ((((32 : Int32) + ((3 : Int32) * x4)) + (1 : Int32)).toNatClampNeg))).1 204 ((((32 : Int32) + ((3 : Int32) * x4)) + (2 : Int32)).toNatClampNeg))) := w14.n rfl
                  have f15 : Fx (RS [22, 24, 28]) m0 (uI (uI (uI m 190 x4.toNatClampNeg (m.1 204 (((32 : Int32) + ((3 : Int32) * x4)).toNatClampNeg))) 191 x4.toNatClampNeg ((uI m 190 x4.toNatClampNeg (m.1 204 (((32 : Int32) + ((3 : Int32) * x4)).toNatClampNeg))).1 204 ((((32 : Int32) + ((3 : Int32) * x4)) + (1 : Int32)).toNatClampNeg))) 192 x4.toNatClampNeg ((uI (uI m 190 x4.toNatClampNeg (m.1 204 (((32 : Int32) + ((3 : Int32) * x4)).toNatClampNeg))) 191 x4.toNatClampNeg ((uI m 190 x4.toNatClampNeg (m.1 204 (((32 : Int32) + ((3 : Int32) * x4)).toNatClampNeg))).1 204 ((((32 : Int32) + ((3 : Int32) * x4)) + (1 : Int32)).toNatClampNeg))).1 204 ((((32 : Int32) + ((3 : Int32) * x4)) + (2 : Int32)).toNatClampNeg))) := f14.i rfl
                  have t16 := ti_addc (x := x4) (y := (1 : Int32)) (c := 1) rfl (by omega)
                  exact ih _ _ w15 f15 (by show (0 : Int) ≤ ((x4 + (1 : Int32))).toInt; omega) (by show ((x4 + (1 : Int32))).toInt ≤ (8 : Int); omega) (by show 8 - ((x4 + (1 : Int32))).toInt < _; omega)
set_option maxHeartbeats 4000000 in
theorem s_X12_goQuiet {ad : Nat → Nat} {d : Nat} {m : Wm} {x1 x2 x3 : Int32} (w : WT m) (i1 : (0 : Int) ≤ x1.toInt) (i2 : x1.toInt ≤ (7 : Int)) (i3 : (0 : Int) ≤ x2.toInt) (i4 : x2.toInt ≤ (7 : Int)) : Ct ad μX12_goQuiet (d + 170) [.ref (ad 187), .int x1, .int x2, .int x3] m (fun r m' => WT m' ∧ Fx (RS [22, 24, 28]) m m' ∧ r = none) := by
  have f : Fx (RS [22, 24, 28]) m m := Fx.rf
  refine v_X12_goQuiet  ?_
  refine (s_X12_winner w (by show (0 : Int) ≤ (x1).toInt; omega) (by show (x1).toInt ≤ (7 : Int); omega) (by show (0 : Int) ≤ (x2).toInt; omega) (by show (x2).toInt ≤ (7 : Int); omega)).to ?_
  rintro _ m1 ⟨w_m1, g1, v2, rfl, p2, p3⟩
  have f_m1 : Fx (RS [22, 24, 28]) m m1 := f.tr g1 (RS_sub rfl)
  have e4 : (m1.1 187 1).toInt = ((m.1 187 1)).toInt := congrArg _ (g1.at (a := 187) (k := 1) (by decide))
  have e5 : (m1.1 187 0).toInt = ((m.1 187 0)).toInt := congrArg _ (g1.at (a := 187) (k := 0) (by decide))
  refine ⟨v2, rfl, ?_⟩
  refine (s_X12_settle w_m1 (by show (0 : Int) ≤ (x1).toInt; omega) (by show (x1).toInt ≤ (7 : Int); omega) (by show (0 : Int) ≤ (x2).toInt; omega) (by show (x2).toInt ≤ (7 : Int); omega)).to ?_
  rintro _ m3 ⟨w_m3, g6, rfl⟩
  have f_m3 : Fx (RS [22, 24, 28]) m m3 := f_m1.tr g6 (RS_sub rfl)
  have e7 : (m3.1 187 1).toInt = ((m1.1 187 1)).toInt := congrArg _ (g6.at (a := 187) (k := 1) (by decide))
  have e8 : (m3.1 187 0).toInt = ((m1.1 187 0)).toInt := congrArg _ (g6.at (a := 187) (k := 0) (by decide))
  refine ⟨rfl, ?_⟩
  exact (l_X12_goQuiet (m0 := m) 1000000) _ _ w_m3 f_m3 (by show (0 : Int) ≤ (0 : Int); omega) (by show (0 : Int) ≤ (8 : Int); omega) (by show 8 - (0 : Int) < _; omega)
set_option maxHeartbeats 4000000 in
theorem l_X12_half {ad : Nat → Nat} {d : Nat} {m0 : Wm}  : ∀ n : Nat, (∀ (m : Wm) (x1 x4 : Int32) (y2 : Int64), WT m → Fx (RS []) m0 m → (0 : Int) ≤ x1.toInt → x1.toInt ≤ (16 : Int) → (0 : Int) ≤ x4.toInt → x4.toInt ≤ (16 : Int) → 16 - x4.toInt < (n : Int) → AW ad E0 μX12_half d (fun r m' => WT m' ∧ Fx (RS []) m0 m' ∧ ∃ v : Int64, r = some (.long v)) 5 [(0, .ref (ad 187)), (1, .int x1), (2, .long y2), (4, .int x4)] [] m) := by
  intro n
  induction n with
  | zero =>
    intros
    exfalso
    omega
  | succ n ih =>
    intro m x1 x4 y2 w f j1 j2 j3 j4 hn
    refine g_X12_half_5  ?_
    refine ⟨?_, ?_⟩
    · intro c1
      have k2 := y_lel (n := 16) rfl c1
      exact ⟨w, f, _, rfl⟩
    · intro c3
      have k4 := y_nlel (n := 16) rfl c3
      refine ⟨?_, ?_⟩
      · have t5 := ti_add (x := x1) (y := x4) (by omega)
        exact vpi (by omega) (by omega)
      · have t6 := ti_addc (x := x4) (y := (1 : Int32)) (c := 1) rfl (by omega)
        exact ih _ _ _ _ w f (by show (0 : Int) ≤ (x1).toInt; omega) (by show (x1).toInt ≤ (16 : Int); omega) (by show (0 : Int) ≤ ((x4 + (1 : Int32))).toInt; omega) (by show ((x4 + (1 : Int32))).toInt ≤ (16 : Int); omega) (by show 16 - ((x4 + (1 : Int32))).toInt < _; omega)
set_option maxHeartbeats 4000000 in
theorem s_X12_half {ad : Nat → Nat} {d : Nat} {m : Wm} {x1 : Int32} (w : WT m) (i1 : (0 : Int) ≤ x1.toInt) (i2 : x1.toInt ≤ (16 : Int)) : Ct ad μX12_half d [.ref (ad 187), .int x1] m (fun r m' => WT m' ∧ Fx (RS []) m m' ∧ ∃ v : Int64, r = some (.long v)) := by
  have f : Fx (RS []) m m := Fx.rf
  refine v_X12_half  ?_
  exact (l_X12_half (m0 := m) 1000000) _ _ _ _ w f (by show (0 : Int) ≤ (x1).toInt; omega) (by show (x1).toInt ≤ (16 : Int); omega) (by show (0 : Int) ≤ (0 : Int); omega) (by show (0 : Int) ≤ (16 : Int); omega) (by show 16 - (0 : Int) < _; omega)
set_option maxHeartbeats 4000000 in
theorem l_X12_load {ad : Nat → Nat} {d : Nat} {m0 : Wm}  : ∀ n : Nat, (∀ (m : Wm) (x6 : Int32) (y2 y4 : Int64), WT m → Fx (RS [24]) m0 m → (-1 : Int) ≤ x6.toInt → x6.toInt ≤ (15 : Int) → x6.toInt + 1 < (n : Int) → AW ad E0 μX12_load d (fun r m' => WT m' ∧ Fx (RS [24]) m0 m' ∧ r = none) 19 [(0, .ref (ad 187)), (2, .long y2), (4, .long y4), (6, .int x6)] [] m) := by
  intro n
  induction n with
  | zero =>
    intros
    exfalso
    omega
  | succ n ih =>
    intro m x6 y2 y4 w f j1 j2 hn
    refine g_X12_load_19  ?_
    refine ⟨?_, ?_⟩
    · intro c1
      have k2 := y_ltr (n := 0) rfl c1
      exact ⟨w, f, rfl⟩
    · intro c3
      have k4 := y_nltr (n := 0) rfl c3
      refine ⟨?_, ?_⟩
      · exact vpi (by omega) (by omega)
      · refine ⟨?_, ?_⟩
        · have t5 := ti_addl (x := (16 : Int32)) (y := x6) (c := 16) rfl (by omega)
          exact vpi (by omega) (by omega)
        · have w6 : WT (uI m 188 x6.toNatClampNeg ((y2 &&& (7 : Int64)).toInt32)) := w.n rfl
          have f6 : Fx (RS [24]) m0 (uI m 188 x6.toNatClampNeg ((y2 &&& (7 : Int64)).toInt32)) := f.i rfl
          have w7 : WT (uI (uI m 188 x6.toNatClampNeg ((y2 &&& (7 : Int64)).toInt32)) 188 (((16 : Int32) + x6).toNatClampNeg) ((y4 &&& (7 : Int64)).toInt32)) := w6.n rfl
          have f7 : Fx (RS [24]) m0 (uI (uI m 188 x6.toNatClampNeg ((y2 &&& (7 : Int64)).toInt32)) 188 (((16 : Int32) + x6).toNatClampNeg) ((y4 &&& (7 : Int64)).toInt32)) := f6.i rfl
          have t8 := ti_addc (x := x6) (y := (-1 : Int32)) (c := -1) rfl (by omega)
          exact ih _ _ _ _ w7 f7 (by show (-1 : Int) ≤ ((x6 + (-1 : Int32))).toInt; omega) (by show ((x6 + (-1 : Int32))).toInt ≤ (15 : Int); omega) (by show ((x6 + (-1 : Int32))).toInt + 1 < _; omega)
set_option maxHeartbeats 4000000 in
theorem s_X12_load {ad : Nat → Nat} {d : Nat} {m : Wm} {x1 : Int32} (w : WT m) (i1 : (0 : Int) ≤ x1.toInt) (i2 : x1.toInt ≤ (2999 : Int)) : Ct ad μX12_load d [.ref (ad 187), .int x1] m (fun r m' => WT m' ∧ Fx (RS [24]) m m' ∧ r = none) := by
  have f : Fx (RS [24]) m m := Fx.rf
  refine v_X12_load  ?_
  refine ⟨?_, ?_⟩
  · exact vpi (by omega) (by omega)
  · refine ⟨?_, ?_⟩
    · exact vpi (by omega) (by omega)
    · exact (l_X12_load (m0 := m) 1000000) _ _ _ _ w f (by show (-1 : Int) ≤ (15 : Int); omega) (by show (15 : Int) ≤ (15 : Int); omega) (by show (15 : Int) + 1 < _; omega)
set_option maxHeartbeats 4000000 in
theorem l_X12_goTurn {ad : Nat → Nat} {d : Nat} {m0 : Wm}  : ∀ n : Nat, (∀ (m : Wm) (x1 : Int32), WT m → Fx (RS [22, 24, 28]) m0 m → (0 : Int) ≤ x1.toInt → x1.toInt ≤ (40 : Int) → 40 - x1.toInt < (n : Int) → AW ad E0 μX12_goTurn (d + 171) (fun r m' => WT m' ∧ Fx (RS [22, 24, 28]) m0 m' ∧ r = none) 2 [(0, .ref (ad 187)), (1, .int x1)] [] m) := by
  intro n
  induction n with
  | zero =>
    intros
    exfalso
    omega
  | succ n ih =>
    intro m x1 w f j1 j2 hn
    refine g_X12_goTurn_2  ?_
    refine ⟨?_, ?_⟩
    · intro c1
      have r2 := w.at (a := 187) (k := 10) rfl
      have k3 := z_le c1
      exact ⟨w, f, rfl⟩
    · intro c4
      have r5 := w.at (a := 187) (k := 10) rfl
      have k6 := z_nle c4
      refine ⟨?_, ?_⟩
      · have t7 := ti_mulc (c := 4) (y := (4 : Int32)) (x := x1) rfl (by omega)
        exact vpi (by omega) (by omega)
      · refine ⟨?_, ?_⟩
        · have t8 := ti_mulc (c := 4) (y := (4 : Int32)) (x := x1) rfl (by omega)
          have t9 := ti_addc (x := ((4 : Int32) * x1)) (y := (1 : Int32)) (c := 1) rfl (by omega)
          exact vpi (by omega) (by omega)
        · refine ⟨?_, ?_⟩
          · have t10 := ti_mulc (c := 4) (y := (4 : Int32)) (x := x1) rfl (by omega)
            have t11 := ti_addc (x := ((4 : Int32) * x1)) (y := (2 : Int32)) (c := 2) rfl (by omega)
            exact vpi (by omega) (by omega)
          · have r12 := w.p40 (x := x1) ⟨by omega, by omega⟩
            have r13 := w.p41 (x := x1) ⟨by omega, by omega⟩
            refine (s_X12_goQuiet w (by show (0 : Int) ≤ ((m.1 194 (((4 : Int32) * x1).toNatClampNeg))).toInt; omega) (by show ((m.1 194 (((4 : Int32) * x1).toNatClampNeg))).toInt ≤ (7 : Int); omega) (by show (0 : Int) ≤ ((m.1 194 ((((4 : Int32) * x1) + (1 : Int32)).toNatClampNeg))).toInt; omega) (by show ((m.1 194 ((((4 : Int32) * x1) + (1 : Int32)).toNatClampNeg))).toInt ≤ (7 : Int); omega)).to ?_
            rintro _ m1 ⟨w_m1, g14, rfl⟩
            have f_m1 : Fx (RS [22, 24, 28]) m0 m1 := f.tr g14 (RS_sub rfl)
            have e15 : (m1.1 187 1).toInt = ((m.1 187 1)).toInt := congrArg _ (g14.at (a := 187) (k := 1) (by decide))
            have e16 : (m1.1 187 0).toInt = ((m.1 187 0)).toInt := congrArg _ (g14.at (a := 187) (k := 0) (by decide))
            refine ⟨rfl, ?_⟩
            have t17 := ti_addc (x := x1) (y := (1 : Int32)) (c := 1) rfl (by omega)
            exact ih _ _ w_m1 f_m1 (by show (0 : Int) ≤ ((x1 + (1 : Int32))).toInt; omega) (by show ((x1 + (1 : Int32))).toInt ≤ (40 : Int); omega) (by show 40 - ((x1 + (1 : Int32))).toInt < _; omega)
set_option maxHeartbeats 4000000 in
theorem s_X12_goTurn {ad : Nat → Nat} {d : Nat} {m : Wm} (w : WT m) : Ct ad μX12_goTurn (d + 171) [.ref (ad 187)] m (fun r m' => WT m' ∧ Fx (RS [22, 24, 28]) m m' ∧ r = none) := by
  have f : Fx (RS [22, 24, 28]) m m := Fx.rf
  refine v_X12_goTurn  ?_
  exact (l_X12_goTurn (m0 := m) 1000000) _ _ w f (by show (0 : Int) ≤ (0 : Int); omega) (by show (0 : Int) ≤ (40 : Int); omega) (by show 40 - (0 : Int) < _; omega)
set_option maxHeartbeats 4000000 in
theorem l_X12_skillIn {ad : Nat → Nat} {d : Nat} {m0 : Wm}  : ∀ n : Nat, (∀ (m : Wm) (x4 : Int32) (z0 : Int64), WT m → Fx (RS []) m0 m → 0 * x4.toInt < (n : Int) → AW ad E0 μX12_skillIn d (fun r m' => WT m' ∧ Fx (RS []) m0 m' ∧ ∃ v : Int32, r = some (.int v)) 29 [(4, .int x4)] [.long z0] m) := by
  intro n
  induction n with
  | zero =>
    intros
    exfalso
    omega
  | succ n ih =>
    intro m x4 z0 w f  hn
    refine g_X12_skillIn_29  ?_
    exact ⟨w, f, _, rfl⟩
set_option maxHeartbeats 4000000 in
theorem s_X12_skillIn {ad : Nat → Nat} {d : Nat} {m : Wm} {x1 x2 x3 : Int32} (w : WT m) (i1 : (0 : Int) ≤ x1.toInt) (i2 : x1.toInt ≤ (2999 : Int)) (i3 : (0 : Int) ≤ x2.toInt) (i4 : x2.toInt ≤ (7 : Int)) (i5 : (0 : Int) ≤ x3.toInt) (i6 : x3.toInt ≤ (3 : Int)) : Ct ad μX12_skillIn d [.ref (ad 187), .int x1, .int x2, .int x3] m (fun r m' => WT m' ∧ Fx (RS []) m m' ∧ ∃ v : Int32, r = some (.int v)) := by
  have f : Fx (RS []) m m := Fx.rf
  refine v_X12_skillIn  ?_
  refine ⟨?_, ?_⟩
  · intro c1
    have t2 := ti_mulc (c := 4) (y := (4 : Int32)) (x := x2) rfl (by omega)
    have t3 := ti_add (x := ((4 : Int32) * x2)) (y := x3) (by omega)
    have k4 := y_lel (n := 16) rfl c1
    refine ⟨?_, ?_⟩
    · exact vpi (by omega) (by omega)
    · exact (l_X12_skillIn (m0 := m) 1000000) _ _ _ w f (by show 0 * ((((4 : Int32) * x2) + x3)).toInt < _; omega)
  · intro c5
    have t6 := ti_mulc (c := 4) (y := (4 : Int32)) (x := x2) rfl (by omega)
    have t7 := ti_add (x := ((4 : Int32) * x2)) (y := x3) (by omega)
    have k8 := y_nlel (n := 16) rfl c5
    refine ⟨?_, ?_⟩
    · exact vpi (by omega) (by omega)
    · exact (l_X12_skillIn (m0 := m) 1000000) _ _ _ w f (by show 0 * ((((4 : Int32) * x2) + x3)).toInt < _; omega)
set_option maxHeartbeats 4000000 in
theorem l_X12_next {ad : Nat → Nat} {d : Nat} {m0 : Wm}  : ∀ n : Nat, (∀ (m : Wm) (x1 x2 x3 x4 : Int32), WT m → Fx (RS [20, 22, 24, 26, 28, 34, 49]) m0 m → (0 : Int) ≤ x1.toInt → x1.toInt ≤ (7 : Int) → (0 : Int) ≤ x4.toInt → x4.toInt ≤ (3 : Int) → (3 - x4.toInt) * 1000 + 900 < (n : Int) → AW ad E0 μX12_next (d + 171) (fun r m' => WT m' ∧ Fx (RS [20, 22, 24, 26, 28, 34, 49]) m0 m' ∧ ∃ v : Int32, r = some (.int v)) 42 [(0, .ref (ad 187)), (1, .int x1), (2, .int x2), (3, .int x3), (4, .int x4)] [] m) ∧ (∀ (m : Wm) (x1 x2 x3 x4 x5 : Int32), WT m → Fx (RS [20, 22, 24, 26, 28, 34, 49]) m0 m → (0 : Int) ≤ x1.toInt → x1.toInt ≤ (7 : Int) → (0 : Int) ≤ x4.toInt → x4.toInt ≤ (2 : Int) → (0 : Int) ≤ x5.toInt → x5.toInt ≤ (8 : Int) → (3 - x4.toInt) * 1000 + (8 - x5.toInt) * 40 + 35 < (n : Int) → AW ad E0 μX12_next (d + 171) (fun r m' => WT m' ∧ Fx (RS [20, 22, 24, 26, 28, 34, 49]) m0 m' ∧ ∃ v : Int32, r = some (.int v)) 51 [(0, .ref (ad 187)), (1, .int x1), (2, .int x2), (3, .int x3), (4, .int x4), (5, .int x5)] [] m) ∧ (∀ (m : Wm) (x1 x2 x3 x4 x5 x6 : Int32), WT m → Fx (RS [20, 22, 24, 26, 28, 34, 49]) m0 m → (0 : Int) ≤ x1.toInt → x1.toInt ≤ (7 : Int) → (0 : Int) ≤ x4.toInt → x4.toInt ≤ (2 : Int) → (0 : Int) ≤ x5.toInt → x5.toInt ≤ (7 : Int) → (0 : Int) ≤ x6.toInt → x6.toInt ≤ (8 : Int) → (3 - x4.toInt) * 1000 + (8 - x5.toInt) * 40 + (8 - x6.toInt) * 2 + 1 < (n : Int) → AW ad E0 μX12_next (d + 171) (fun r m' => WT m' ∧ Fx (RS [20, 22, 24, 26, 28, 34, 49]) m0 m' ∧ ∃ v : Int32, r = some (.int v)) 66 [(0, .ref (ad 187)), (1, .int x1), (2, .int x2), (3, .int x3), (4, .int x4), (5, .int x5), (6, .int x6)] [] m) ∧ (∀ (m : Wm) (x1 x4 x5 x6 x7 : Int32), WT m → Fx (RS [20, 22, 24, 26, 28, 34, 49]) m0 m → (0 : Int) ≤ x1.toInt → x1.toInt ≤ (7 : Int) → (0 : Int) ≤ x4.toInt → x4.toInt ≤ (2 : Int) → (0 : Int) ≤ x5.toInt → x5.toInt ≤ (7 : Int) → (0 : Int) ≤ x6.toInt → x6.toInt ≤ (7 : Int) → (3 - x4.toInt) * 1000 + (8 - x5.toInt) * 40 + (8 - x6.toInt) * 2 < (n : Int) → AW ad E0 μX12_next (d + 171) (fun r m' => WT m' ∧ Fx (RS [20, 22, 24, 26, 28, 34, 49]) m0 m' ∧ ∃ v : Int32, r = some (.int v)) 115 [(0, .ref (ad 187)), (1, .int x1), (4, .int x4), (5, .int x5), (6, .int x6), (7, .int x7)] [] m) := by
  intro n
  induction n with
  | zero =>
    refine ⟨?_, ?_, ?_, ?_⟩ <;> intros <;> exfalso <;> omega
  | succ n ih =>
    refine ⟨?_, ?_, ?_, ?_⟩
    · intro m x1 x2 x3 x4 w f j1 j2 j3 j4 hn
      refine g_X12_next_42  ?_
      refine ⟨?_, ?_⟩
      · intro c1
        have k2 := y_lel (n := 3) rfl c1
        have w3 : WT (uI m 187 16 (0 : Int32)) := w.t rfl (by show (0 : Int) ≤ (0 : Int); omega) (by show (0 : Int) ≤ 16; omega)
        have f3 : Fx (RS [20, 22, 24, 26, 28, 34, 49]) m0 (uI m 187 16 (0 : Int32)) := f.i rfl
        refine (s_X12_tell w3 (by show (0 : Int) ≤ 15; omega)).to ?_
        rintro _ m1 ⟨w_m1, g4, rfl, p5⟩
        have f_m1 : Fx (RS [20, 22, 24, 26, 28, 34, 49]) m0 m1 := f3.tr g4 (RS_sub rfl)
        have p6 : (m1.1 187 16).toInt = (0 : Int) + 1 := p5
        clear p5
        have e7 : (m1.1 187 1).toInt = ((m.1 187 1)).toInt := congrArg _ (g4.at (a := 187) (k := 1) (by decide))
        have e8 : (m1.1 187 0).toInt = ((m.1 187 0)).toInt := congrArg _ (g4.at (a := 187) (k := 0) (by decide))
        refine ⟨rfl, ?_⟩
        exact ⟨w_m1, f_m1, _, rfl⟩
      · intro c9
        have k10 := y_nlel (n := 3) rfl c9
        exact ih.2.1 _ _ _ _ _ _ w f (by show (0 : Int) ≤ (x1).toInt; omega) (by show (x1).toInt ≤ (7 : Int); omega) (by show (0 : Int) ≤ (x4).toInt; omega) (by show (x4).toInt ≤ (2 : Int); omega) (by show (0 : Int) ≤ (0 : Int); omega) (by show (0 : Int) ≤ (8 : Int); omega) (by show (3 - (x4).toInt) * 1000 + (8 - (0 : Int)) * 40 + 35 < _; omega)
    · intro m x1 x2 x3 x4 x5 w f j1 j2 j3 j4 j5 j6 hn
      refine g_X12_next_51  ?_
      refine ⟨?_, ?_⟩
      · intro c1
        have r2 := w.at (a := 187) (k := 1) rfl
        have k3 := z_le c1
        have t4 := ti_addc (x := x4) (y := (1 : Int32)) (c := 1) rfl (by omega)
        exact ih.1 _ _ _ _ _ w f (by show (0 : Int) ≤ (x1).toInt; omega) (by show (x1).toInt ≤ (7 : Int); omega) (by show (0 : Int) ≤ ((x4 + (1 : Int32))).toInt; omega) (by show ((x4 + (1 : Int32))).toInt ≤ (3 : Int); omega) (by show (3 - ((x4 + (1 : Int32))).toInt) * 1000 + 900 < _; omega)
      · intro c5
        have r6 := w.at (a := 187) (k := 1) rfl
        have k7 := z_nle c5
        have t8 := ti_addc (x := x5) (y := (1 : Int32)) (c := 1) rfl (by omega)
        exact ih.2.2.1 _ _ _ _ _ _ _ w f (by show (0 : Int) ≤ (x1).toInt; omega) (by show (x1).toInt ≤ (7 : Int); omega) (by show (0 : Int) ≤ (x4).toInt; omega) (by show (x4).toInt ≤ (2 : Int); omega) (by show (0 : Int) ≤ (x5).toInt; omega) (by show (x5).toInt ≤ (7 : Int); omega) (by show (0 : Int) ≤ ((x5 + (1 : Int32))).toInt; omega) (by show ((x5 + (1 : Int32))).toInt ≤ (8 : Int); omega) (by show (3 - (x4).toInt) * 1000 + (8 - (x5).toInt) * 40 + (8 - ((x5 + (1 : Int32))).toInt) * 2 + 1 < _; omega)
    · intro m x1 x2 x3 x4 x5 x6 w f j1 j2 j3 j4 j5 j6 j7 j8 hn
      refine g_X12_next_66  ?_
      refine ⟨?_, ?_⟩
      · intro c1
        have r2 := w.at (a := 187) (k := 1) rfl
        have k3 := z_le c1
        have t4 := ti_addc (x := x5) (y := (1 : Int32)) (c := 1) rfl (by omega)
        exact ih.2.1 _ _ _ _ _ _ w f (by show (0 : Int) ≤ (x1).toInt; omega) (by show (x1).toInt ≤ (7 : Int); omega) (by show (0 : Int) ≤ (x4).toInt; omega) (by show (x4).toInt ≤ (2 : Int); omega) (by show (0 : Int) ≤ ((x5 + (1 : Int32))).toInt; omega) (by show ((x5 + (1 : Int32))).toInt ≤ (8 : Int); omega) (by show (3 - (x4).toInt) * 1000 + (8 - ((x5 + (1 : Int32))).toInt) * 40 + 35 < _; omega)
      · intro c5
        have r6 := w.at (a := 187) (k := 1) rfl
        have k7 := z_nle c5
        refine (s_X12_goQuiet w (by show (0 : Int) ≤ (x5).toInt; omega) (by show (x5).toInt ≤ (7 : Int); omega) (by show (0 : Int) ≤ (x6).toInt; omega) (by show (x6).toInt ≤ (7 : Int); omega)).to ?_
        rintro _ m1 ⟨w_m1, g8, rfl⟩
        have f_m1 : Fx (RS [20, 22, 24, 26, 28, 34, 49]) m0 m1 := f.tr g8 (RS_sub rfl)
        have e9 : (m1.1 187 16).toInt = ((m.1 187 16)).toInt := congrArg _ (g8.at (a := 187) (k := 16) (by decide))
        have e10 : (m1.1 187 1).toInt = ((m.1 187 1)).toInt := congrArg _ (g8.at (a := 187) (k := 1) (by decide))
        have e11 : (m1.1 187 0).toInt = ((m.1 187 0)).toInt := congrArg _ (g8.at (a := 187) (k := 0) (by decide))
        refine ⟨rfl, ?_⟩
        refine (s_X12_power w_m1 (by show (0 : Int) ≤ (x1).toInt; omega) (by show (x1).toInt ≤ (7 : Int); omega)).to ?_
        rintro _ m2 ⟨w_m2, g12, v3, rfl⟩
        have f_m2 : Fx (RS [20, 22, 24, 26, 28, 34, 49]) m0 m2 := f_m1.tr g12 (RS_sub rfl)
        have e13 : (m2.1 187 16).toInt = ((m1.1 187 16)).toInt := congrArg _ (g12.at (a := 187) (k := 16) (by decide))
        have e14 : (m2.1 187 1).toInt = ((m1.1 187 1)).toInt := congrArg _ (g12.at (a := 187) (k := 1) (by decide))
        have e15 : (m2.1 187 0).toInt = ((m1.1 187 0)).toInt := congrArg _ (g12.at (a := 187) (k := 0) (by decide))
        refine ⟨v3, rfl, ?_⟩
        refine (s_X12_bring_204 w_m2 (by show (0 : Int) ≤ (0 : Int); omega) (by show (0 : Int) ≤ (0 : Int); omega)).to ?_
        rintro _ m4 ⟨w_m4, g16, rfl⟩
        have f_m4 : Fx (RS [20, 22, 24, 26, 28, 34, 49]) m0 m4 := f_m2.tr g16 (RS_sub rfl)
        have e17 : (m4.1 187 16).toInt = ((m2.1 187 16)).toInt := congrArg _ (g16.at (a := 187) (k := 16) (by decide))
        have e18 : (m4.1 187 1).toInt = ((m2.1 187 1)).toInt := congrArg _ (g16.at (a := 187) (k := 1) (by decide))
        have e19 : (m4.1 187 0).toInt = ((m2.1 187 0)).toInt := congrArg _ (g16.at (a := 187) (k := 0) (by decide))
        refine ⟨rfl, ?_⟩
        refine ⟨?_, ?_⟩
        · intro c20
          have k21 := y_eqr (n := -1) rfl c20
          exact ih.2.2.2 _ _ _ _ _ _ w_m4 f_m4 (by show (0 : Int) ≤ (x1).toInt; omega) (by show (x1).toInt ≤ (7 : Int); omega) (by show (0 : Int) ≤ (x4).toInt; omega) (by show (x4).toInt ≤ (2 : Int); omega) (by show (0 : Int) ≤ (x5).toInt; omega) (by show (x5).toInt ≤ (7 : Int); omega) (by show (0 : Int) ≤ (x6).toInt; omega) (by show (x6).toInt ≤ (7 : Int); omega) (by show (3 - (x4).toInt) * 1000 + (8 - (x5).toInt) * 40 + (8 - (x6).toInt) * 2 < _; omega)
        · intro c22
          have k23 := y_ner (n := -1) rfl c22
          refine ⟨?_, ?_⟩
          · intro c24
            have k25 := z_lt c24
            exact ih.2.2.2 _ _ _ _ _ _ w_m4 f_m4 (by show (0 : Int) ≤ (x1).toInt; omega) (by show (x1).toInt ≤ (7 : Int); omega) (by show (0 : Int) ≤ (x4).toInt; omega) (by show (x4).toInt ≤ (2 : Int); omega) (by show (0 : Int) ≤ (x5).toInt; omega) (by show (x5).toInt ≤ (7 : Int); omega) (by show (0 : Int) ≤ (x6).toInt; omega) (by show (x6).toInt ≤ (7 : Int); omega) (by show (3 - (x4).toInt) * 1000 + (8 - (x5).toInt) * 40 + (8 - (x6).toInt) * 2 < _; omega)
          · intro c26
            have k27 := z_nlt c26
            have t28 := ti_addc (x := x6) (y := (1 : Int32)) (c := 1) rfl (by omega)
            exact ih.2.2.1 _ _ _ _ _ _ _ w_m4 f_m4 (by show (0 : Int) ≤ (x1).toInt; omega) (by show (x1).toInt ≤ (7 : Int); omega) (by show (0 : Int) ≤ (x4).toInt; omega) (by show (x4).toInt ≤ (2 : Int); omega) (by show (0 : Int) ≤ (x5).toInt; omega) (by show (x5).toInt ≤ (7 : Int); omega) (by show (0 : Int) ≤ ((x6 + (1 : Int32))).toInt; omega) (by show ((x6 + (1 : Int32))).toInt ≤ (8 : Int); omega) (by show (3 - (x4).toInt) * 1000 + (8 - (x5).toInt) * 40 + (8 - ((x6 + (1 : Int32))).toInt) * 2 + 1 < _; omega)
    · intro m x1 x4 x5 x6 x7 w f j1 j2 j3 j4 j5 j6 j7 j8 hn
      refine g_X12_next_115  ?_
      have t1 := ti_addc (x := x6) (y := (1 : Int32)) (c := 1) rfl (by omega)
      exact ih.2.2.1 _ _ _ _ _ _ _ w f (by show (0 : Int) ≤ (x1).toInt; omega) (by show (x1).toInt ≤ (7 : Int); omega) (by show (0 : Int) ≤ (x4).toInt; omega) (by show (x4).toInt ≤ (2 : Int); omega) (by show (0 : Int) ≤ (x5).toInt; omega) (by show (x5).toInt ≤ (7 : Int); omega) (by show (0 : Int) ≤ ((x6 + (1 : Int32))).toInt; omega) (by show ((x6 + (1 : Int32))).toInt ≤ (8 : Int); omega) (by show (3 - (x4).toInt) * 1000 + (8 - (x5).toInt) * 40 + (8 - ((x6 + (1 : Int32))).toInt) * 2 + 1 < _; omega)
set_option maxHeartbeats 4000000 in
theorem s_X12_next {ad : Nat → Nat} {d : Nat} {m : Wm} {x1 : Int32} (w : WT m) : Ct ad μX12_next (d + 171) [.ref (ad 187), .int x1] m (fun r m' => WT m' ∧ Fx (RS [20, 22, 24, 26, 28, 34, 49]) m m' ∧ ∃ v : Int32, r = some (.int v)) := by
  have f : Fx (RS [20, 22, 24, 26, 28, 34, 49]) m m := Fx.rf
  refine v_X12_next  ?_
  have w1 : WT (uI m 187 17 (0 : Int32)) := w.n rfl
  have f1 : Fx (RS [20, 22, 24, 26, 28, 34, 49]) m (uI m 187 17 (0 : Int32)) := f.i rfl
  refine (s_X12_isSide w1).to ?_
  rintro _ m1 ⟨w_m1, g2, v2, rfl, p4, p5, p3⟩
  have f_m1 : Fx (RS [20, 22, 24, 26, 28, 34, 49]) m m1 := f1.tr g2 (RS_sub rfl)
  have p6 : (v2.toInt = 0 ∧ ((x1).toInt < 0 ∨ ((m.1 187 1)).toInt ≤ (x1).toInt)) ∨ (v2.toInt = 1 ∧ 0 ≤ (x1).toInt ∧ (x1).toInt < ((m.1 187 1)).toInt) := p3
  clear p3
  have e7 : (m1.1 187 16).toInt = ((m.1 187 16)).toInt := congrArg _ (g2.at (a := 187) (k := 16) (by decide))
  have e8 : (m1.1 187 1).toInt = ((m.1 187 1)).toInt := congrArg _ (g2.at (a := 187) (k := 1) (by decide))
  have e9 : (m1.1 187 0).toInt = ((m.1 187 0)).toInt := congrArg _ (g2.at (a := 187) (k := 0) (by decide))
  refine ⟨v2, rfl, ?_⟩
  refine ⟨?_, ?_⟩
  · intro c10
    have k11 := y_ner (n := 0) rfl c10
    have r12 := w.at (a := 187) (k := 1) rfl
    refine ⟨?_, ?_⟩
    · intro c13
      have r14 := w_m1.at (a := 187) (k := 1) rfl
      have k15 := y_lel (n := 2) rfl c13
      refine (s_X12_lay_204 w_m1 (by show (0 : Int) ≤ (0 : Int); omega) (by show (0 : Int) ≤ (0 : Int); omega)).to ?_
      rintro _ m3 ⟨w_m3, g16, rfl⟩
      have f_m3 : Fx (RS [20, 22, 24, 26, 28, 34, 49]) m m3 := f_m1.tr g16 (RS_sub rfl)
      have e17 : (m3.1 187 16).toInt = ((m1.1 187 16)).toInt := congrArg _ (g16.at (a := 187) (k := 16) (by decide))
      have e18 : (m3.1 187 1).toInt = ((m1.1 187 1)).toInt := congrArg _ (g16.at (a := 187) (k := 1) (by decide))
      have e19 : (m3.1 187 0).toInt = ((m1.1 187 0)).toInt := congrArg _ (g16.at (a := 187) (k := 0) (by decide))
      refine ⟨rfl, ?_⟩
      exact (l_X12_next (m0 := m) 1000000).1 _ _ _ _ _ w_m3 f_m3 (by show (0 : Int) ≤ (x1).toInt; omega) (by show (x1).toInt ≤ (7 : Int); omega) (by show (0 : Int) ≤ (0 : Int); omega) (by show (0 : Int) ≤ (3 : Int); omega) (by show (3 - (0 : Int)) * 1000 + 900 < _; omega)
    · intro c20
      have r21 := w_m1.at (a := 187) (k := 1) rfl
      have k22 := y_nlel (n := 2) rfl c20
      exact ⟨w_m1, f_m1, _, rfl⟩
  · intro c23
    have k24 := y_eqr (n := 0) rfl c23
    exact ⟨w_m1, f_m1, _, rfl⟩
set_option maxHeartbeats 4000000 in
theorem s_X12_seen {ad : Nat → Nat} {d : Nat} {m : Wm} {x1 x2 x3 : Int32} (w : WT m) : Ct ad μX12_seen (d + 3) [.ref (ad 187), .int x1, .int x2, .int x3] m (fun r m' => WT m' ∧ Fx (RS [20, 39]) m m' ∧ ∃ v : Int32, r = some (.int v) ∧ ((v.toInt = -1 ∧ (m'.1 187 52).toInt = (m.1 187 52).toInt ∧ (((x1.toInt < 0 ∨ (m.1 187 1).toInt ≤ x1.toInt ∨ x2.toInt < 0 ∨ (m.1 187 1).toInt ≤ x2.toInt ∨ x1.toInt = x2.toInt)) ∨ x3.toInt < 0 ∨ 2 < x3.toInt ∨ 12 ≤ (m.1 187 52).toInt)) ∨ (v.toInt = (m.1 187 52).toInt + 1 ∧ (m'.1 187 52).toInt = (m.1 187 52).toInt + 1 ∧ 0 ≤ x1.toInt ∧ x1.toInt < (m.1 187 1).toInt ∧ 0 ≤ x2.toInt ∧ x2.toInt < (m.1 187 1).toInt ∧ x1.toInt ≠ x2.toInt ∧ 0 ≤ x3.toInt ∧ x3.toInt ≤ 2 ∧ (m.1 187 52).toInt < 12))) := by
  have f : Fx (RS [20, 39]) m m := Fx.rf
  refine v_X12_seen  ?_
  have w1 : WT (uI m 187 17 (0 : Int32)) := w.n rfl
  have f1 : Fx (RS [20, 39]) m (uI m 187 17 (0 : Int32)) := f.i rfl
  refine (s_X12_areTwo w1).to ?_
  rintro _ m1 ⟨w_m1, g2, v2, rfl, p4, p5, p3⟩
  have f_m1 : Fx (RS [20, 39]) m m1 := f1.tr g2 (RS_sub rfl)
  have p6 : (v2.toInt = 0 ∧ ((x1).toInt < 0 ∨ ((m.1 187 1)).toInt ≤ (x1).toInt ∨ (x2).toInt < 0 ∨ ((m.1 187 1)).toInt ≤ (x2).toInt ∨ (x1).toInt = (x2).toInt)) ∨ (v2.toInt = 1 ∧ 0 ≤ (x1).toInt ∧ (x1).toInt < ((m.1 187 1)).toInt ∧ 0 ≤ (x2).toInt ∧ (x2).toInt < ((m.1 187 1)).toInt ∧ (x1).toInt ≠ (x2).toInt) := p3
  clear p3
  have e7 : (m1.1 187 52).toInt = ((m.1 187 52)).toInt := congrArg _ (g2.at (a := 187) (k := 52) (by decide))
  have e8 : (m1.1 187 1).toInt = ((m.1 187 1)).toInt := congrArg _ (g2.at (a := 187) (k := 1) (by decide))
  have e9 : (m1.1 187 0).toInt = ((m.1 187 0)).toInt := congrArg _ (g2.at (a := 187) (k := 0) (by decide))
  refine ⟨v2, rfl, ?_⟩
  refine ⟨?_, ?_⟩
  · intro c10
    have k11 := y_eqr (n := 0) rfl c10
    have r12 := w_m1.at (a := 187) (k := 52) rfl
    exact ⟨w_m1, f_m1, _, rfl, (by show ((-1 : Int) = -1 ∧ ((m1.1 187 52)).toInt = (m.1 187 52).toInt ∧ (((x1.toInt < 0 ∨ (m.1 187 1).toInt ≤ x1.toInt ∨ x2.toInt < 0 ∨ (m.1 187 1).toInt ≤ x2.toInt ∨ x1.toInt = x2.toInt)) ∨ x3.toInt < 0 ∨ 2 < x3.toInt ∨ 12 ≤ (m.1 187 52).toInt)) ∨ ((-1 : Int) = (m.1 187 52).toInt + 1 ∧ ((m1.1 187 52)).toInt = (m.1 187 52).toInt + 1 ∧ 0 ≤ x1.toInt ∧ x1.toInt < (m.1 187 1).toInt ∧ 0 ≤ x2.toInt ∧ x2.toInt < (m.1 187 1).toInt ∧ x1.toInt ≠ x2.toInt ∧ 0 ≤ x3.toInt ∧ x3.toInt ≤ 2 ∧ (m.1 187 52).toInt < 12); omega)⟩
  · intro c13
    have k14 := y_ner (n := 0) rfl c13
    have r15 := w.at (a := 187) (k := 1) rfl
    refine (s_X12_in (x := x3) (lo := (0 : Int32)) (hi := (2 : Int32)) w_m1 rfl rfl).to ?_
    rintro _ m3 ⟨w_m3, g16, v4, rfl, p18, p19, p17⟩
    have f_m3 : Fx (RS [20, 39]) m m3 := f_m1.tr g16 (RS_sub rfl)
    have p20 : (v4.toInt = 0 ∧ ((x3).toInt < (0 : Int) ∨ (2 : Int) < (x3).toInt)) ∨ (v4.toInt = 1 ∧ (0 : Int) ≤ (x3).toInt ∧ (x3).toInt ≤ (2 : Int)) := p17
    clear p17
    have e21 : (m3.1 187 52).toInt = ((m1.1 187 52)).toInt := congrArg _ (g16.at (a := 187) (k := 52) (by decide))
    have e22 : (m3.1 187 1).toInt = ((m1.1 187 1)).toInt := congrArg _ (g16.at (a := 187) (k := 1) (by decide))
    have e23 : (m3.1 187 0).toInt = ((m1.1 187 0)).toInt := congrArg _ (g16.at (a := 187) (k := 0) (by decide))
    refine ⟨v4, rfl, ?_⟩
    refine ⟨?_, ?_⟩
    · intro c24
      have k25 := y_eqr (n := 0) rfl c24
      have r26 := w_m3.at (a := 187) (k := 52) rfl
      exact ⟨w_m3, f_m3, _, rfl, (by show ((-1 : Int) = -1 ∧ ((m3.1 187 52)).toInt = (m.1 187 52).toInt ∧ (((x1.toInt < 0 ∨ (m.1 187 1).toInt ≤ x1.toInt ∨ x2.toInt < 0 ∨ (m.1 187 1).toInt ≤ x2.toInt ∨ x1.toInt = x2.toInt)) ∨ x3.toInt < 0 ∨ 2 < x3.toInt ∨ 12 ≤ (m.1 187 52).toInt)) ∨ ((-1 : Int) = (m.1 187 52).toInt + 1 ∧ ((m3.1 187 52)).toInt = (m.1 187 52).toInt + 1 ∧ 0 ≤ x1.toInt ∧ x1.toInt < (m.1 187 1).toInt ∧ 0 ≤ x2.toInt ∧ x2.toInt < (m.1 187 1).toInt ∧ x1.toInt ≠ x2.toInt ∧ 0 ≤ x3.toInt ∧ x3.toInt ≤ 2 ∧ (m.1 187 52).toInt < 12); omega)⟩
    · intro c27
      have k28 := y_ner (n := 0) rfl c27
      refine ⟨?_, ?_⟩
      · intro c29
        have r30 := w_m3.at (a := 187) (k := 52) rfl
        have k31 := y_ner (n := 12) rfl c29
        refine ⟨?_, ?_⟩
        · have t32 := ti_mulc (c := 3) (y := (3 : Int32)) (x := (m3.1 187 52)) rfl (by omega)
          exact vpi (by omega) (by omega)
        · refine ⟨?_, ?_⟩
          · have t33 := ti_mulc (c := 3) (y := (3 : Int32)) (x := (m3.1 187 52)) rfl (by omega)
            have t34 := ti_addc (x := ((3 : Int32) * (m3.1 187 52))) (y := (1 : Int32)) (c := 1) rfl (by omega)
            show vp_in (((3 : Int32) * (m3.1 187 52)) + (1 : Int32)) 36
            exact vpi (by omega) (by omega)
          · refine ⟨?_, ?_⟩
            · have t35 := ti_mulc (c := 3) (y := (3 : Int32)) (x := (m3.1 187 52)) rfl (by omega)
              have t36 := ti_addc (x := ((3 : Int32) * (m3.1 187 52))) (y := (2 : Int32)) (c := 2) rfl (by omega)
              show vp_in (((3 : Int32) * (m3.1 187 52)) + (2 : Int32)) 36
              exact vpi (by omega) (by omega)
            · have w37 : WT (uI m3 213 (((3 : Int32) * (m3.1 187 52)).toNatClampNeg) x1) := w_m3.us0 (x := (m3.1 187 52)) (v := x1) ⟨by omega, by omega⟩ ⟨by omega, by omega⟩
              have f37 : Fx (RS [20, 39]) m (uI m3 213 (((3 : Int32) * (m3.1 187 52)).toNatClampNeg) x1) := f_m3.i rfl
              have w38 : WT (uI (uI m3 213 (((3 : Int32) * (m3.1 187 52)).toNatClampNeg) x1) 213 ((((3 : Int32) * ((uI m3 213 (((3 : Int32) * (m3.1 187 52)).toNatClampNeg) x1).1 187 52)) + (1 : Int32)).toNatClampNeg) x2) := w37.us1 (x := (m3.1 187 52)) (v := x2) ⟨by omega, by omega⟩ ⟨by omega, by omega⟩
              have f38 : Fx (RS [20, 39]) m (uI (uI m3 213 (((3 : Int32) * (m3.1 187 52)).toNatClampNeg) x1) 213 ((((3 : Int32) * ((uI m3 213 (((3 : Int32) * (m3.1 187 52)).toNatClampNeg) x1).1 187 52)) + (1 : Int32)).toNatClampNeg) x2) := f37.i rfl
              have w39 : WT (uI (uI (uI m3 213 (((3 : Int32) * (m3.1 187 52)).toNatClampNeg) x1) 213 ((((3 : Int32) * ((uI m3 213 (((3 : Int32) * (m3.1 187 52)).toNatClampNeg) x1).1 187 52)) + (1 : Int32)).toNatClampNeg) x2) 213 ((((3 : Int32) * ((uI (uI m3 213 (((3 : Int32) * (m3.1 187 52)).toNatClampNeg) x1) 213 ((((3 : Int32) * ((uI m3 213 (((3 : Int32) * (m3.1 187 52)).toNatClampNeg) x1).1 187 52)) + (1 : Int32)).toNatClampNeg) x2).1 187 52)) + (2 : Int32)).toNatClampNeg) x3) := w38.us2 (x := (m3.1 187 52)) ⟨by omega, by omega⟩
              have f39 : Fx (RS [20, 39]) m (uI (uI (uI m3 213 (((3 : Int32) * (m3.1 187 52)).toNatClampNeg) x1) 213 ((((3 : Int32) * ((uI m3 213 (((3 : Int32) * (m3.1 187 52)).toNatClampNeg) x1).1 187 52)) + (1 : Int32)).toNatClampNeg) x2) 213 ((((3 : Int32) * ((uI (uI m3 213 (((3 : Int32) * (m3.1 187 52)).toNatClampNeg) x1) 213 ((((3 : Int32) * ((uI m3 213 (((3 : Int32) * (m3.1 187 52)).toNatClampNeg) x1).1 187 52)) + (1 : Int32)).toNatClampNeg) x2).1 187 52)) + (2 : Int32)).toNatClampNeg) x3) := f38.i rfl
              have t41 := ti_addc (x := (m3.1 187 52)) (y := (1 : Int32)) (c := 1) rfl (by omega)
              have w40 : WT (uI (uI (uI (uI m3 213 (((3 : Int32) * (m3.1 187 52)).toNatClampNeg) x1) 213 ((((3 : Int32) * ((uI m3 213 (((3 : Int32) * (m3.1 187 52)).toNatClampNeg) x1).1 187 52)) + (1 : Int32)).toNatClampNeg) x2) 213 ((((3 : Int32) * ((uI (uI m3 213 (((3 : Int32) * (m3.1 187 52)).toNatClampNeg) x1) 213 ((((3 : Int32) * ((uI m3 213 (((3 : Int32) * (m3.1 187 52)).toNatClampNeg) x1).1 187 52)) + (1 : Int32)).toNatClampNeg) x2).1 187 52)) + (2 : Int32)).toNatClampNeg) x3) 187 52 (((uI (uI (uI m3 213 (((3 : Int32) * (m3.1 187 52)).toNatClampNeg) x1) 213 ((((3 : Int32) * ((uI m3 213 (((3 : Int32) * (m3.1 187 52)).toNatClampNeg) x1).1 187 52)) + (1 : Int32)).toNatClampNeg) x2) 213 ((((3 : Int32) * ((uI (uI m3 213 (((3 : Int32) * (m3.1 187 52)).toNatClampNeg) x1) 213 ((((3 : Int32) * ((uI m3 213 (((3 : Int32) * (m3.1 187 52)).toNatClampNeg) x1).1 187 52)) + (1 : Int32)).toNatClampNeg) x2).1 187 52)) + (2 : Int32)).toNatClampNeg) x3).1 187 52) + (1 : Int32))) := w39.t rfl (by show (0 : Int) ≤ (((m3.1 187 52) + (1 : Int32))).toInt; omega) (by show (((m3.1 187 52) + (1 : Int32))).toInt ≤ 12; omega)
              have f40 : Fx (RS [20, 39]) m (uI (uI (uI (uI m3 213 (((3 : Int32) * (m3.1 187 52)).toNatClampNeg) x1) 213 ((((3 : Int32) * ((uI m3 213 (((3 : Int32) * (m3.1 187 52)).toNatClampNeg) x1).1 187 52)) + (1 : Int32)).toNatClampNeg) x2) 213 ((((3 : Int32) * ((uI (uI m3 213 (((3 : Int32) * (m3.1 187 52)).toNatClampNeg) x1) 213 ((((3 : Int32) * ((uI m3 213 (((3 : Int32) * (m3.1 187 52)).toNatClampNeg) x1).1 187 52)) + (1 : Int32)).toNatClampNeg) x2).1 187 52)) + (2 : Int32)).toNatClampNeg) x3) 187 52 (((uI (uI (uI m3 213 (((3 : Int32) * (m3.1 187 52)).toNatClampNeg) x1) 213 ((((3 : Int32) * ((uI m3 213 (((3 : Int32) * (m3.1 187 52)).toNatClampNeg) x1).1 187 52)) + (1 : Int32)).toNatClampNeg) x2) 213 ((((3 : Int32) * ((uI (uI m3 213 (((3 : Int32) * (m3.1 187 52)).toNatClampNeg) x1) 213 ((((3 : Int32) * ((uI m3 213 (((3 : Int32) * (m3.1 187 52)).toNatClampNeg) x1).1 187 52)) + (1 : Int32)).toNatClampNeg) x2).1 187 52)) + (2 : Int32)).toNatClampNeg) x3).1 187 52) + (1 : Int32))) := f39.i rfl
              exact ⟨w40, f40, _, rfl, (by show ((((m3.1 187 52) + (1 : Int32))).toInt = -1 ∧ (((m3.1 187 52) + (1 : Int32))).toInt = (m.1 187 52).toInt ∧ (((x1.toInt < 0 ∨ (m.1 187 1).toInt ≤ x1.toInt ∨ x2.toInt < 0 ∨ (m.1 187 1).toInt ≤ x2.toInt ∨ x1.toInt = x2.toInt)) ∨ x3.toInt < 0 ∨ 2 < x3.toInt ∨ 12 ≤ (m.1 187 52).toInt)) ∨ ((((m3.1 187 52) + (1 : Int32))).toInt = (m.1 187 52).toInt + 1 ∧ (((m3.1 187 52) + (1 : Int32))).toInt = (m.1 187 52).toInt + 1 ∧ 0 ≤ x1.toInt ∧ x1.toInt < (m.1 187 1).toInt ∧ 0 ≤ x2.toInt ∧ x2.toInt < (m.1 187 1).toInt ∧ x1.toInt ≠ x2.toInt ∧ 0 ≤ x3.toInt ∧ x3.toInt ≤ 2 ∧ (m.1 187 52).toInt < 12); omega)⟩
      · intro c42
        have r43 := w_m3.at (a := 187) (k := 52) rfl
        have k44 := y_eqr (n := 12) rfl c42
        exact ⟨w_m3, f_m3, _, rfl, (by show ((-1 : Int) = -1 ∧ ((m3.1 187 52)).toInt = (m.1 187 52).toInt ∧ (((x1.toInt < 0 ∨ (m.1 187 1).toInt ≤ x1.toInt ∨ x2.toInt < 0 ∨ (m.1 187 1).toInt ≤ x2.toInt ∨ x1.toInt = x2.toInt)) ∨ x3.toInt < 0 ∨ 2 < x3.toInt ∨ 12 ≤ (m.1 187 52).toInt)) ∨ ((-1 : Int) = (m.1 187 52).toInt + 1 ∧ ((m3.1 187 52)).toInt = (m.1 187 52).toInt + 1 ∧ 0 ≤ x1.toInt ∧ x1.toInt < (m.1 187 1).toInt ∧ 0 ≤ x2.toInt ∧ x2.toInt < (m.1 187 1).toInt ∧ x1.toInt ≠ x2.toInt ∧ 0 ≤ x3.toInt ∧ x3.toInt ≤ 2 ∧ (m.1 187 52).toInt < 12); omega)⟩
set_option maxHeartbeats 4000000 in
theorem l_X12_found {ad : Nat → Nat} {d : Nat} {m0 : Wm}  : ∀ n : Nat, (∀ (m : Wm) (x1 x2 x3 x4 : Int32), WT m → Fx (RS [20, 22, 26, 28]) m0 m → (0 : Int) ≤ x4.toInt → x4.toInt ≤ (8 : Int) → (8 - x4.toInt) * 100 + 90 < (n : Int) → AW ad E0 μX12_found (d + 170) (fun r m' => WT m' ∧ Fx (RS [20, 22, 26, 28]) m0 m' ∧ ∃ v : Int32, r = some (.int v)) 14 [(0, .ref (ad 187)), (1, .int x1), (2, .int x2), (3, .int x3), (4, .int x4)] [] m) ∧ (∀ (m : Wm) (x1 x2 x3 x4 x5 x6 : Int32), WT m → Fx (RS [20, 22, 26, 28]) m0 m → (0 : Int) ≤ x4.toInt → x4.toInt ≤ (7 : Int) → (0 : Int) ≤ x6.toInt → x6.toInt ≤ (12 : Int) → (8 - x4.toInt) * 100 + (12 - x6.toInt) * 2 + 1 < (n : Int) → AW ad E0 μX12_found (d + 170) (fun r m' => WT m' ∧ Fx (RS [20, 22, 26, 28]) m0 m' ∧ ∃ v : Int32, r = some (.int v)) 29 [(0, .ref (ad 187)), (1, .int x1), (2, .int x2), (3, .int x3), (4, .int x4), (5, .int x5), (6, .int x6)] [] m) ∧ (∀ (m : Wm) (x1 x2 x3 x4 x6 x8 x9 s0 : Int32), WT m → Fx (RS [20, 22, 26, 28]) m0 m → (0 : Int) ≤ x4.toInt → x4.toInt ≤ (7 : Int) → (0 : Int) ≤ x6.toInt → x6.toInt ≤ (11 : Int) → (8 - x4.toInt) * 100 + (12 - x6.toInt) * 2 < (n : Int) → AW ad E0 μX12_found (d + 170) (fun r m' => WT m' ∧ Fx (RS [20, 22, 26, 28]) m0 m' ∧ ∃ v : Int32, r = some (.int v)) 113 [(0, .ref (ad 187)), (1, .int x1), (2, .int x2), (3, .int x3), (4, .int x4), (6, .int x6), (8, .int x8), (9, .int x9)] [.int s0] m) := by
  intro n
  induction n with
  | zero =>
    refine ⟨?_, ?_, ?_⟩ <;> intros <;> exfalso <;> omega
  | succ n ih =>
    refine ⟨?_, ?_, ?_⟩
    · intro m x1 x2 x3 x4 w f j1 j2 hn
      refine g_X12_found_14  ?_
      refine ⟨?_, ?_⟩
      · intro c1
        have r2 := w.at (a := 187) (k := 1) rfl
        have k3 := z_le c1
        have w4 : WT (uI m 187 16 (0 : Int32)) := w.t rfl (by show (0 : Int) ≤ (0 : Int); omega) (by show (0 : Int) ≤ 16; omega)
        have f4 : Fx (RS [20, 22, 26, 28]) m0 (uI m 187 16 (0 : Int32)) := f.i rfl
        refine (s_J6_bitCount w4).to ?_
        rintro _ m1 ⟨w_m1, g5, v2, rfl⟩
        have f_m1 : Fx (RS [20, 22, 26, 28]) m0 m1 := f4.tr g5 (RS_sub rfl)
        have e6 : (m1.1 187 16).toInt = (0 : Int) := congrArg _ (g5.at (a := 187) (k := 16) (by decide))
        have e7 : (m1.1 187 1).toInt = ((m.1 187 1)).toInt := congrArg _ (g5.at (a := 187) (k := 1) (by decide))
        have e8 : (m1.1 187 0).toInt = ((m.1 187 0)).toInt := congrArg _ (g5.at (a := 187) (k := 0) (by decide))
        refine ⟨v2, rfl, ?_⟩
        have r9 := w_m1.at (a := 187) (k := 16) rfl
        refine (s_X12_tell w_m1 (by show ((m1.1 187 16)).toInt ≤ 15; omega)).to ?_
        rintro _ m3 ⟨w_m3, g10, rfl, p11⟩
        have f_m3 : Fx (RS [20, 22, 26, 28]) m0 m3 := f_m1.tr g10 (RS_sub rfl)
        have p12 : (m3.1 187 16).toInt = ((m1.1 187 16)).toInt + 1 := p11
        clear p11
        have e13 : (m3.1 187 1).toInt = ((m1.1 187 1)).toInt := congrArg _ (g10.at (a := 187) (k := 1) (by decide))
        have e14 : (m3.1 187 0).toInt = ((m1.1 187 0)).toInt := congrArg _ (g10.at (a := 187) (k := 0) (by decide))
        refine ⟨rfl, ?_⟩
        have r15 := w_m3.at (a := 187) (k := 16) rfl
        refine (s_X12_tell w_m3 (by show ((m3.1 187 16)).toInt ≤ 15; omega)).to ?_
        rintro _ m4 ⟨w_m4, g16, rfl, p17⟩
        have f_m4 : Fx (RS [20, 22, 26, 28]) m0 m4 := f_m3.tr g16 (RS_sub rfl)
        have p18 : (m4.1 187 16).toInt = ((m3.1 187 16)).toInt + 1 := p17
        clear p17
        have e19 : (m4.1 187 1).toInt = ((m3.1 187 1)).toInt := congrArg _ (g16.at (a := 187) (k := 1) (by decide))
        have e20 : (m4.1 187 0).toInt = ((m3.1 187 0)).toInt := congrArg _ (g16.at (a := 187) (k := 0) (by decide))
        refine ⟨rfl, ?_⟩
        have r21 := w_m4.at (a := 187) (k := 16) rfl
        refine (s_X12_tell w_m4 (by show ((m4.1 187 16)).toInt ≤ 15; omega)).to ?_
        rintro _ m5 ⟨w_m5, g22, rfl, p23⟩
        have f_m5 : Fx (RS [20, 22, 26, 28]) m0 m5 := f_m4.tr g22 (RS_sub rfl)
        have p24 : (m5.1 187 16).toInt = ((m4.1 187 16)).toInt + 1 := p23
        clear p23
        have e25 : (m5.1 187 1).toInt = ((m4.1 187 1)).toInt := congrArg _ (g22.at (a := 187) (k := 1) (by decide))
        have e26 : (m5.1 187 0).toInt = ((m4.1 187 0)).toInt := congrArg _ (g22.at (a := 187) (k := 0) (by decide))
        refine ⟨rfl, ?_⟩
        exact ⟨w_m5, f_m5, _, rfl⟩
      · intro c27
        have r28 := w.at (a := 187) (k := 1) rfl
        have k29 := z_nle c27
        exact ih.2.1 _ _ _ _ _ _ _ w f (by show (0 : Int) ≤ (x4).toInt; omega) (by show (x4).toInt ≤ (7 : Int); omega) (by show (0 : Int) ≤ (0 : Int); omega) (by show (0 : Int) ≤ (12 : Int); omega) (by show (8 - (x4).toInt) * 100 + (12 - (0 : Int)) * 2 + 1 < _; omega)
    · intro m x1 x2 x3 x4 x5 x6 w f j1 j2 j3 j4 hn
      refine g_X12_found_29  ?_
      refine ⟨?_, ?_⟩
      · intro c1
        have r2 := w.at (a := 187) (k := 52) rfl
        have k3 := z_le c1
        refine ⟨?_, ?_⟩
        · intro c4
          have k5 := z_lt c4
          have t6 := ti_addc (x := x4) (y := (1 : Int32)) (c := 1) rfl (by omega)
          exact ih.1 _ _ _ _ _ w f (by show (0 : Int) ≤ ((x4 + (1 : Int32))).toInt; omega) (by show ((x4 + (1 : Int32))).toInt ≤ (8 : Int); omega) (by show (8 - ((x4 + (1 : Int32))).toInt) * 100 + 90 < _; omega)
        · intro c7
          have k8 := z_nlt c7
          have t9 := ti_addc (x := x4) (y := (1 : Int32)) (c := 1) rfl (by omega)
          exact ih.1 _ _ _ _ _ w f (by show (0 : Int) ≤ ((x4 + (1 : Int32))).toInt; omega) (by show ((x4 + (1 : Int32))).toInt ≤ (8 : Int); omega) (by show (8 - ((x4 + (1 : Int32))).toInt) * 100 + 90 < _; omega)
      · intro c10
        have r11 := w.at (a := 187) (k := 52) rfl
        have k12 := z_nle c10
        refine ⟨?_, ?_⟩
        · have t13 := ti_mulc (c := 3) (y := (3 : Int32)) (x := x6) rfl (by omega)
          exact vpi (by omega) (by omega)
        · refine ⟨?_, ?_⟩
          · have t14 := ti_mulc (c := 3) (y := (3 : Int32)) (x := x6) rfl (by omega)
            have t15 := ti_addc (x := ((3 : Int32) * x6)) (y := (1 : Int32)) (c := 1) rfl (by omega)
            exact vpi (by omega) (by omega)
          · refine ⟨?_, ?_⟩
            · have t16 := ti_mulc (c := 3) (y := (3 : Int32)) (x := x6) rfl (by omega)
              have t17 := ti_addc (x := ((3 : Int32) * x6)) (y := (2 : Int32)) (c := 2) rfl (by omega)
              exact vpi (by omega) (by omega)
            · have r18 := w.s30 (x := x6) ⟨by omega, by omega⟩
              have r19 := w.s31 (x := x6) ⟨by omega, by omega⟩
              refine (s_X12_winner w (by show (0 : Int) ≤ ((m.1 213 (((3 : Int32) * x6).toNatClampNeg))).toInt; omega) (by show ((m.1 213 (((3 : Int32) * x6).toNatClampNeg))).toInt ≤ (7 : Int); omega) (by show (0 : Int) ≤ ((m.1 213 ((((3 : Int32) * x6) + (1 : Int32)).toNatClampNeg))).toInt; omega) (by show ((m.1 213 ((((3 : Int32) * x6) + (1 : Int32)).toNatClampNeg))).toInt ≤ (7 : Int); omega)).to ?_
              rintro _ m1 ⟨w_m1, g20, v2, rfl, p21, p22⟩
              have f_m1 : Fx (RS [20, 22, 26, 28]) m0 m1 := f.tr g20 (RS_sub rfl)
              have e23 : (m1.1 187 16).toInt = ((m.1 187 16)).toInt := congrArg _ (g20.at (a := 187) (k := 16) (by decide))
              have e24 : (m1.1 187 1).toInt = ((m.1 187 1)).toInt := congrArg _ (g20.at (a := 187) (k := 1) (by decide))
              have e25 : (m1.1 187 0).toInt = ((m.1 187 0)).toInt := congrArg _ (g20.at (a := 187) (k := 0) (by decide))
              refine ⟨v2, rfl, ?_⟩
              refine ⟨?_, ?_⟩
              · intro c26
                have k27 := z_ne c26
                refine ⟨?_, ?_⟩
                · intro c28
                  have k29 := y_eqr (n := 0) rfl c28
                  exact ih.2.2 _ _ _ _ _ _ _ _ _ w_m1 f_m1 (by show (0 : Int) ≤ (x4).toInt; omega) (by show (x4).toInt ≤ (7 : Int); omega) (by show (0 : Int) ≤ (x6).toInt; omega) (by show (x6).toInt ≤ (11 : Int); omega) (by show (8 - (x4).toInt) * 100 + (12 - (x6).toInt) * 2 < _; omega)
                · intro c30
                  have k31 := y_ner (n := 0) rfl c30
                  refine ⟨?_, ?_⟩
                  · intro c32
                    have k33 := z_eq c32
                    have t34 := ti_addc (x := x6) (y := (1 : Int32)) (c := 1) rfl (by omega)
                    exact ih.2.1 _ _ _ _ _ _ _ w_m1 f_m1 (by show (0 : Int) ≤ (x4).toInt; omega) (by show (x4).toInt ≤ (7 : Int); omega) (by show (0 : Int) ≤ ((x6 + (1 : Int32))).toInt; omega) (by show ((x6 + (1 : Int32))).toInt ≤ (12 : Int); omega) (by show (8 - (x4).toInt) * 100 + (12 - ((x6 + (1 : Int32))).toInt) * 2 + 1 < _; omega)
                  · intro c35
                    have k36 := z_ne c35
                    exact ih.2.2 _ _ _ _ _ _ _ _ _ w_m1 f_m1 (by show (0 : Int) ≤ (x4).toInt; omega) (by show (x4).toInt ≤ (7 : Int); omega) (by show (0 : Int) ≤ (x6).toInt; omega) (by show (x6).toInt ≤ (11 : Int); omega) (by show (8 - (x4).toInt) * 100 + (12 - (x6).toInt) * 2 < _; omega)
              · intro c37
                have k38 := z_eq c37
                have t39 := ti_addc (x := x6) (y := (1 : Int32)) (c := 1) rfl (by omega)
                exact ih.2.1 _ _ _ _ _ _ _ w_m1 f_m1 (by show (0 : Int) ≤ (x4).toInt; omega) (by show (x4).toInt ≤ (7 : Int); omega) (by show (0 : Int) ≤ ((x6 + (1 : Int32))).toInt; omega) (by show ((x6 + (1 : Int32))).toInt ≤ (12 : Int); omega) (by show (8 - (x4).toInt) * 100 + (12 - ((x6 + (1 : Int32))).toInt) * 2 + 1 < _; omega)
    · intro m x1 x2 x3 x4 x6 x8 x9 s0 w f j1 j2 j3 j4 hn
      refine g_X12_found_113  ?_
      refine ⟨?_, ?_⟩
      · intro c1
        have k2 := y_eqr (n := 1) rfl c1
        have t3 := ti_addc (x := x6) (y := (1 : Int32)) (c := 1) rfl (by omega)
        exact ih.2.1 _ _ _ _ _ _ _ w f (by show (0 : Int) ≤ (x4).toInt; omega) (by show (x4).toInt ≤ (7 : Int); omega) (by show (0 : Int) ≤ ((x6 + (1 : Int32))).toInt; omega) (by show ((x6 + (1 : Int32))).toInt ≤ (12 : Int); omega) (by show (8 - (x4).toInt) * 100 + (12 - ((x6 + (1 : Int32))).toInt) * 2 + 1 < _; omega)
      · intro c4
        have k5 := y_ner (n := 1) rfl c4
        refine ⟨?_, ?_⟩
        · intro c6
          have k7 := z_ne c6
          have t8 := ti_addc (x := x6) (y := (1 : Int32)) (c := 1) rfl (by omega)
          exact ih.2.1 _ _ _ _ _ _ _ w f (by show (0 : Int) ≤ (x4).toInt; omega) (by show (x4).toInt ≤ (7 : Int); omega) (by show (0 : Int) ≤ ((x6 + (1 : Int32))).toInt; omega) (by show ((x6 + (1 : Int32))).toInt ≤ (12 : Int); omega) (by show (8 - (x4).toInt) * 100 + (12 - ((x6 + (1 : Int32))).toInt) * 2 + 1 < _; omega)
        · intro c9
          have k10 := z_eq c9
          have t11 := ti_addc (x := x6) (y := (1 : Int32)) (c := 1) rfl (by omega)
          exact ih.2.1 _ _ _ _ _ _ _ w f (by show (0 : Int) ≤ (x4).toInt; omega) (by show (x4).toInt ≤ (7 : Int); omega) (by show (0 : Int) ≤ ((x6 + (1 : Int32))).toInt; omega) (by show ((x6 + (1 : Int32))).toInt ≤ (12 : Int); omega) (by show (8 - (x4).toInt) * 100 + (12 - ((x6 + (1 : Int32))).toInt) * 2 + 1 < _; omega)
set_option maxHeartbeats 4000000 in
theorem s_X12_found {ad : Nat → Nat} {d : Nat} {m : Wm} (w : WT m) : Ct ad μX12_found (d + 170) [.ref (ad 187)] m (fun r m' => WT m' ∧ Fx (RS [20, 22, 26, 28]) m m' ∧ ∃ v : Int32, r = some (.int v)) := by
  have f : Fx (RS [20, 22, 26, 28]) m m := Fx.rf
  refine v_X12_found  ?_
  have w1 : WT (uI m 187 17 (0 : Int32)) := w.n rfl
  have f1 : Fx (RS [20, 22, 26, 28]) m (uI m 187 17 (0 : Int32)) := f.i rfl
  exact (l_X12_found (m0 := m) 1000000).1 _ _ _ _ _ w1 f1 (by show (0 : Int) ≤ (0 : Int); omega) (by show (0 : Int) ≤ (8 : Int); omega) (by show (8 - (0 : Int)) * 100 + 90 < _; omega)
set_option maxHeartbeats 4000000 in
theorem l_X12_prize {ad : Nat → Nat} {d : Nat} {m0 : Wm}  : ∀ n : Nat, (∀ (m : Wm) (x1 x2 x3 : Int32), WT m → Fx (RS [20, 26]) m0 m → (0 : Int) ≤ x1.toInt → x1.toInt ≤ (7 : Int) → (0 : Int) ≤ x3.toInt → x3.toInt ≤ (8 : Int) → 8 - x3.toInt < (n : Int) → AW ad E0 μX12_prize (d + 1) (fun r m' => WT m' ∧ Fx (RS [20, 26]) m0 m' ∧ ∃ v : Int32, r = some (.int v)) 21 [(0, .ref (ad 187)), (1, .int x1), (2, .int x2), (3, .int x3)] [] m) := by
  intro n
  induction n with
  | zero =>
    intros
    exfalso
    omega
  | succ n ih =>
    intro m x1 x2 x3 w f j1 j2 j3 j4 hn
    refine g_X12_prize_21  ?_
    refine ⟨?_, ?_⟩
    · intro c1
      have r2 := w.at (a := 187) (k := 1) rfl
      have k3 := z_le c1
      refine ⟨?_, ?_⟩
      · exact vpi (by omega) (by omega)
      · have w4 : WT (uI m 187 16 (0 : Int32)) := w.t rfl (by show (0 : Int) ≤ (0 : Int); omega) (by show (0 : Int) ≤ 16; omega)
        have f4 : Fx (RS [20, 26]) m0 (uI m 187 16 (0 : Int32)) := f.i rfl
        refine (s_X12_tell w4 (by show (0 : Int) ≤ 15; omega)).to ?_
        rintro _ m1 ⟨w_m1, g5, rfl, p6⟩
        have f_m1 : Fx (RS [20, 26]) m0 m1 := f4.tr g5 (RS_sub rfl)
        have p7 : (m1.1 187 16).toInt = (0 : Int) + 1 := p6
        clear p6
        have e8 : (m1.1 187 1).toInt = ((m.1 187 1)).toInt := congrArg _ (g5.at (a := 187) (k := 1) (by decide))
        have e9 : (m1.1 187 0).toInt = ((m.1 187 0)).toInt := congrArg _ (g5.at (a := 187) (k := 0) (by decide))
        refine ⟨rfl, ?_⟩
        have r10 := w_m1.at (a := 187) (k := 16) rfl
        refine (s_X12_tell w_m1 (by show ((m1.1 187 16)).toInt ≤ 15; omega)).to ?_
        rintro _ m2 ⟨w_m2, g11, rfl, p12⟩
        have f_m2 : Fx (RS [20, 26]) m0 m2 := f_m1.tr g11 (RS_sub rfl)
        have p13 : (m2.1 187 16).toInt = ((m1.1 187 16)).toInt + 1 := p12
        clear p12
        have e14 : (m2.1 187 1).toInt = ((m1.1 187 1)).toInt := congrArg _ (g11.at (a := 187) (k := 1) (by decide))
        have e15 : (m2.1 187 0).toInt = ((m1.1 187 0)).toInt := congrArg _ (g11.at (a := 187) (k := 0) (by decide))
        refine ⟨rfl, ?_⟩
        exact ⟨w_m2, f_m2, _, rfl⟩
    · intro c16
      have r17 := w.at (a := 187) (k := 1) rfl
      have k18 := z_nle c16
      refine ⟨?_, ?_⟩
      · exact vpi (by omega) (by omega)
      · refine ⟨?_, ?_⟩
        · exact vpi (by omega) (by omega)
        · refine ⟨?_, ?_⟩
          · exact vpi (by omega) (by omega)
          · refine ⟨?_, ?_⟩
            · intro c19
              have k20 := z_le c19
              have t21 := ti_addc (x := x3) (y := (1 : Int32)) (c := 1) rfl (by omega)
              exact ih _ _ _ _ w f (by show (0 : Int) ≤ (x1).toInt; omega) (by show (x1).toInt ≤ (7 : Int); omega) (by show (0 : Int) ≤ ((x3 + (1 : Int32))).toInt; omega) (by show ((x3 + (1 : Int32))).toInt ≤ (8 : Int); omega) (by show 8 - ((x3 + (1 : Int32))).toInt < _; omega)
            · intro c22
              have k23 := z_nle c22
              have t24 := ti_addc (x := x3) (y := (1 : Int32)) (c := 1) rfl (by omega)
              exact ih _ _ _ _ w f (by show (0 : Int) ≤ (x3).toInt; omega) (by show (x3).toInt ≤ (7 : Int); omega) (by show (0 : Int) ≤ ((x3 + (1 : Int32))).toInt; omega) (by show ((x3 + (1 : Int32))).toInt ≤ (8 : Int); omega) (by show 8 - ((x3 + (1 : Int32))).toInt < _; omega)
set_option maxHeartbeats 4000000 in
theorem s_X12_prize {ad : Nat → Nat} {d : Nat} {m : Wm} (w : WT m) : Ct ad μX12_prize (d + 1) [.ref (ad 187)] m (fun r m' => WT m' ∧ Fx (RS [20, 26]) m m' ∧ ∃ v : Int32, r = some (.int v)) := by
  have f : Fx (RS [20, 26]) m m := Fx.rf
  refine v_X12_prize  ?_
  refine ⟨?_, ?_⟩
  · intro c1
    have r2 := w.at (a := 187) (k := 1) rfl
    have c3 : ¬ (m.1 187 1) = (0 : Int32) := c1
    have k4 := y_ner (n := 0) rfl c3
    have w5 : WT (uI m 187 17 (0 : Int32)) := w.n rfl
    have f5 : Fx (RS [20, 26]) m (uI m 187 17 (0 : Int32)) := f.i rfl
    exact (l_X12_prize (m0 := m) 1000000) _ _ _ _ w5 f5 (by show (0 : Int) ≤ (0 : Int); omega) (by show (0 : Int) ≤ (7 : Int); omega) (by show (0 : Int) ≤ (0 : Int); omega) (by show (0 : Int) ≤ (8 : Int); omega) (by show 8 - (0 : Int) < _; omega)
  · intro c6
    have r7 := w.at (a := 187) (k := 1) rfl
    have c8 : (m.1 187 1) = (0 : Int32) := c6
    have k9 := y_eqr (n := 0) rfl c8
    have w10 : WT (uI m 187 17 (0 : Int32)) := w.n rfl
    have f10 : Fx (RS [20, 26]) m (uI m 187 17 (0 : Int32)) := f.i rfl
    exact ⟨w10, f10, _, rfl⟩
set_option maxHeartbeats 4000000 in
theorem s_X12_pointsBehind {ad : Nat → Nat} {d : Nat} {m : Wm} {x1 x2 : Int32} (w : WT m) (i1 : (0 : Int) ≤ x1.toInt) (i2 : x1.toInt ≤ (7 : Int)) (i3 : (0 : Int) ≤ x2.toInt) (i4 : x2.toInt ≤ (50 : Int)) (i5 : 1 ≤ (m.1 187 11).toInt) : Ct ad μX12_pointsBehind (d + 172) [.ref (ad 187), .int x1, .int x2] m (fun r m' => WT m' ∧ Fx (RS [22, 24, 28, 29, 31, 49]) m m' ∧ ∃ v : Int32, r = some (.int v)) := by
  have f : Fx (RS [22, 24, 28, 29, 31, 49]) m m := Fx.rf
  refine v_X12_pointsBehind  ?_
  have r1 := w.at (a := 187) (k := 11) rfl
  refine (s_X12_goRounds w (by show (0 : Int) ≤ (x2).toInt; omega) (by show (x2).toInt ≤ (200 : Int); omega) (by show 1 ≤ ((m.1 187 11)).toInt; omega)).to ?_
  rintro _ m1 ⟨w_m1, g2, rfl⟩
  have f_m1 : Fx (RS [22, 24, 28, 29, 31, 49]) m m1 := f.tr g2 (RS_sub rfl)
  have e3 : (m1.1 187 1).toInt = ((m.1 187 1)).toInt := congrArg _ (g2.at (a := 187) (k := 1) (by decide))
  have e4 : (m1.1 187 0).toInt = ((m.1 187 0)).toInt := congrArg _ (g2.at (a := 187) (k := 0) (by decide))
  refine ⟨rfl, ?_⟩
  refine ⟨?_, ?_⟩
  · exact vpi (by omega) (by omega)
  · refine (s_X12_bring_202 w_m1 (by show (0 : Int) ≤ (0 : Int); omega) (by show (0 : Int) ≤ (0 : Int); omega)).to ?_
    rintro _ m2 ⟨w_m2, g5, rfl⟩
    have f_m2 : Fx (RS [22, 24, 28, 29, 31, 49]) m m2 := f_m1.tr g5 (RS_sub rfl)
    have e6 : (m2.1 187 1).toInt = ((m1.1 187 1)).toInt := congrArg _ (g5.at (a := 187) (k := 1) (by decide))
    have e7 : (m2.1 187 0).toInt = ((m1.1 187 0)).toInt := congrArg _ (g5.at (a := 187) (k := 0) (by decide))
    refine ⟨rfl, ?_⟩
    exact ⟨w_m2, f_m2, _, rfl⟩
set_option maxHeartbeats 4000000 in
theorem l_X12_pays {ad : Nat → Nat} {d : Nat} {m0 : Wm}  : ∀ n : Nat, (∀ (m : Wm) (x1 x2 x3 s0 s1 : Int32), WT m → Fx (RS [20, 22, 24, 26, 28, 29, 30, 31, 46, 49]) m0 m → (0 : Int) ≤ x1.toInt → x1.toInt ≤ (7 : Int) → (0 : Int) ≤ x2.toInt → x2.toInt ≤ (50 : Int) → (0 : Int) ≤ s1.toInt → s1.toInt ≤ (7 : Int) → (1 ≤ (m.1 187 11).toInt) → 0 * x1.toInt + 2 < (n : Int) → AW ad E0 μX12_pays (d + 173) (fun r m' => WT m' ∧ Fx (RS [20, 22, 24, 26, 28, 29, 30, 31, 46, 49]) m0 m' ∧ ∃ v : Int32, r = some (.int v)) 69 [(0, .ref (ad 187)), (1, .int x1), (2, .int x2), (3, .int x3)] [.int s0, .int s1, .ref (ad 189)] m) ∧ (∀ (m : Wm) (x3 x4 s0 s1 : Int32), WT m → Fx (RS [20, 22, 24, 26, 28, 29, 30, 31, 46, 49]) m0 m → (0 : Int) ≤ s1.toInt → s1.toInt ≤ (7 : Int) → 0 * x3.toInt + 1 < (n : Int) → AW ad E0 μX12_pays (d + 173) (fun r m' => WT m' ∧ Fx (RS [20, 22, 24, 26, 28, 29, 30, 31, 46, 49]) m0 m' ∧ ∃ v : Int32, r = some (.int v)) 97 [(0, .ref (ad 187)), (3, .int x3), (4, .int x4)] [.int s0, .int s1, .ref (ad 189)] m) := by
  intro n
  induction n with
  | zero =>
    refine ⟨?_, ?_⟩ <;> intros <;> exfalso <;> omega
  | succ n ih =>
    refine ⟨?_, ?_⟩
    · intro m x1 x2 x3 s0 s1 w f j1 j2 j3 j4 j5 j6 j7 hn
      refine g_X12_pays_69 ly_189 ?_
      refine ⟨?_, ?_⟩
      · exact vpi (by omega) (by omega)
      · have w1 : WT (uI m 189 s1.toNatClampNeg (vp_nar .boolean s0)) := w.n rfl
        have f1 : Fx (RS [20, 22, 24, 26, 28, 29, 30, 31, 46, 49]) m0 (uI m 189 s1.toNatClampNeg (vp_nar .boolean s0)) := f.i rfl
        have r2 := w.at (a := 187) (k := 11) rfl
        refine (s_X12_pointsBehind w1 (by show (0 : Int) ≤ (x1).toInt; omega) (by show (x1).toInt ≤ (7 : Int); omega) (by show (0 : Int) ≤ (x2).toInt; omega) (by show (x2).toInt ≤ (50 : Int); omega) (by show 1 ≤ ((m.1 187 11)).toInt; omega)).to ?_
        rintro _ m1 ⟨w_m1, g3, v2, rfl⟩
        have f_m1 : Fx (RS [20, 22, 24, 26, 28, 29, 30, 31, 46, 49]) m0 m1 := f1.tr g3 (RS_sub rfl)
        have e4 : (m1.1 187 11).toInt = ((m.1 187 11)).toInt := congrArg _ (g3.at (a := 187) (k := 11) (by decide))
        have e5 : (m1.1 187 10).toInt = ((m.1 187 10)).toInt := congrArg _ (g3.at (a := 187) (k := 10) (by decide))
        have e6 : (m1.1 187 16).toInt = ((m.1 187 16)).toInt := congrArg _ (g3.at (a := 187) (k := 16) (by decide))
        have e7 : (m1.1 187 1).toInt = ((m.1 187 1)).toInt := congrArg _ (g3.at (a := 187) (k := 1) (by decide))
        have e8 : (m1.1 187 0).toInt = ((m.1 187 0)).toInt := congrArg _ (g3.at (a := 187) (k := 0) (by decide))
        refine ⟨v2, rfl, ?_⟩
        refine ⟨?_, ?_⟩
        · exact vpi (by omega) (by omega)
        · refine ⟨?_, ?_⟩
          · intro c9
            have k10 := y_ner (n := 0) rfl c9
            exact ih.2 _ _ _ _ _ w_m1 f_m1 (by show (0 : Int) ≤ (x1).toInt; omega) (by show (x1).toInt ≤ (7 : Int); omega) (by show 0 * (x3).toInt + 1 < _; omega)
          · intro c11
            have k12 := y_eqr (n := 0) rfl c11
            exact ih.2 _ _ _ _ _ w_m1 f_m1 (by show (0 : Int) ≤ (x1).toInt; omega) (by show (x1).toInt ≤ (7 : Int); omega) (by show 0 * (x3).toInt + 1 < _; omega)
    · intro m x3 x4 s0 s1 w f j1 j2 hn
      refine g_X12_pays_97 ly_189 ?_
      refine ⟨?_, ?_⟩
      · exact vpi (by omega) (by omega)
      · have w1 : WT (uI m 189 s1.toNatClampNeg (vp_nar .boolean s0)) := w.n rfl
        have f1 : Fx (RS [20, 22, 24, 26, 28, 29, 30, 31, 46, 49]) m0 (uI m 189 s1.toNatClampNeg (vp_nar .boolean s0)) := f.i rfl
        have w2 : WT (uI (uI m 189 s1.toNatClampNeg (vp_nar .boolean s0)) 187 16 (0 : Int32)) := w1.t rfl (by show (0 : Int) ≤ (0 : Int); omega) (by show (0 : Int) ≤ 16; omega)
        have f2 : Fx (RS [20, 22, 24, 26, 28, 29, 30, 31, 46, 49]) m0 (uI (uI m 189 s1.toNatClampNeg (vp_nar .boolean s0)) 187 16 (0 : Int32)) := f1.i rfl
        refine (s_X12_tell w2 (by show (0 : Int) ≤ 15; omega)).to ?_
        rintro _ m1 ⟨w_m1, g3, rfl, p4⟩
        have f_m1 : Fx (RS [20, 22, 24, 26, 28, 29, 30, 31, 46, 49]) m0 m1 := f2.tr g3 (RS_sub rfl)
        have p5 : (m1.1 187 16).toInt = (0 : Int) + 1 := p4
        clear p4
        have e6 : (m1.1 187 11).toInt = ((m.1 187 11)).toInt := congrArg _ (g3.at (a := 187) (k := 11) (by decide))
        have e7 : (m1.1 187 10).toInt = ((m.1 187 10)).toInt := congrArg _ (g3.at (a := 187) (k := 10) (by decide))
        have e8 : (m1.1 187 1).toInt = ((m.1 187 1)).toInt := congrArg _ (g3.at (a := 187) (k := 1) (by decide))
        have e9 : (m1.1 187 0).toInt = ((m.1 187 0)).toInt := congrArg _ (g3.at (a := 187) (k := 0) (by decide))
        refine ⟨rfl, ?_⟩
        have r10 := w_m1.at (a := 187) (k := 16) rfl
        refine (s_X12_tell w_m1 (by show ((m1.1 187 16)).toInt ≤ 15; omega)).to ?_
        rintro _ m2 ⟨w_m2, g11, rfl, p12⟩
        have f_m2 : Fx (RS [20, 22, 24, 26, 28, 29, 30, 31, 46, 49]) m0 m2 := f_m1.tr g11 (RS_sub rfl)
        have p13 : (m2.1 187 16).toInt = ((m1.1 187 16)).toInt + 1 := p12
        clear p12
        have e14 : (m2.1 187 11).toInt = ((m1.1 187 11)).toInt := congrArg _ (g11.at (a := 187) (k := 11) (by decide))
        have e15 : (m2.1 187 10).toInt = ((m1.1 187 10)).toInt := congrArg _ (g11.at (a := 187) (k := 10) (by decide))
        have e16 : (m2.1 187 1).toInt = ((m1.1 187 1)).toInt := congrArg _ (g11.at (a := 187) (k := 1) (by decide))
        have e17 : (m2.1 187 0).toInt = ((m1.1 187 0)).toInt := congrArg _ (g11.at (a := 187) (k := 0) (by decide))
        refine ⟨rfl, ?_⟩
        exact ⟨w_m2, f_m2, _, rfl⟩
set_option maxHeartbeats 4000000 in
theorem s_X12_pays {ad : Nat → Nat} {d : Nat} {m : Wm} {x1 x2 : Int32} (w : WT m) : Ct ad μX12_pays (d + 173) [.ref (ad 187), .int x1, .int x2] m (fun r m' => WT m' ∧ Fx (RS [20, 22, 24, 26, 28, 29, 30, 31, 46, 49]) m m' ∧ ∃ v : Int32, r = some (.int v)) := by
  have f : Fx (RS [20, 22, 24, 26, 28, 29, 30, 31, 46, 49]) m m := Fx.rf
  refine v_X12_pays  ?_
  have w1 : WT (uI m 187 17 (0 : Int32)) := w.n rfl
  have f1 : Fx (RS [20, 22, 24, 26, 28, 29, 30, 31, 46, 49]) m (uI m 187 17 (0 : Int32)) := f.i rfl
  refine (s_X12_isSide w1).to ?_
  rintro _ m1 ⟨w_m1, g2, v2, rfl, p4, p5, p3⟩
  have f_m1 : Fx (RS [20, 22, 24, 26, 28, 29, 30, 31, 46, 49]) m m1 := f1.tr g2 (RS_sub rfl)
  have p6 : (v2.toInt = 0 ∧ ((x1).toInt < 0 ∨ ((m.1 187 1)).toInt ≤ (x1).toInt)) ∨ (v2.toInt = 1 ∧ 0 ≤ (x1).toInt ∧ (x1).toInt < ((m.1 187 1)).toInt) := p3
  clear p3
  have e7 : (m1.1 187 11).toInt = ((m.1 187 11)).toInt := congrArg _ (g2.at (a := 187) (k := 11) (by decide))
  have e8 : (m1.1 187 10).toInt = ((m.1 187 10)).toInt := congrArg _ (g2.at (a := 187) (k := 10) (by decide))
  have e9 : (m1.1 187 16).toInt = ((m.1 187 16)).toInt := congrArg _ (g2.at (a := 187) (k := 16) (by decide))
  have e10 : (m1.1 187 1).toInt = ((m.1 187 1)).toInt := congrArg _ (g2.at (a := 187) (k := 1) (by decide))
  have e11 : (m1.1 187 0).toInt = ((m.1 187 0)).toInt := congrArg _ (g2.at (a := 187) (k := 0) (by decide))
  refine ⟨v2, rfl, ?_⟩
  refine ⟨?_, ?_⟩
  · intro c12
    have k13 := y_eqr (n := 0) rfl c12
    exact ⟨w_m1, f_m1, _, rfl⟩
  · intro c14
    have k15 := y_ner (n := 0) rfl c14
    have r16 := w.at (a := 187) (k := 1) rfl
    refine (s_X12_in (x := x2) (lo := (0 : Int32)) (hi := (50 : Int32)) w_m1 rfl rfl).to ?_
    rintro _ m3 ⟨w_m3, g17, v4, rfl, p19, p20, p18⟩
    have f_m3 : Fx (RS [20, 22, 24, 26, 28, 29, 30, 31, 46, 49]) m m3 := f_m1.tr g17 (RS_sub rfl)
    have p21 : (v4.toInt = 0 ∧ ((x2).toInt < (0 : Int) ∨ (50 : Int) < (x2).toInt)) ∨ (v4.toInt = 1 ∧ (0 : Int) ≤ (x2).toInt ∧ (x2).toInt ≤ (50 : Int)) := p18
    clear p18
    have e22 : (m3.1 187 11).toInt = ((m1.1 187 11)).toInt := congrArg _ (g17.at (a := 187) (k := 11) (by decide))
    have e23 : (m3.1 187 10).toInt = ((m1.1 187 10)).toInt := congrArg _ (g17.at (a := 187) (k := 10) (by decide))
    have e24 : (m3.1 187 16).toInt = ((m1.1 187 16)).toInt := congrArg _ (g17.at (a := 187) (k := 16) (by decide))
    have e25 : (m3.1 187 1).toInt = ((m1.1 187 1)).toInt := congrArg _ (g17.at (a := 187) (k := 1) (by decide))
    have e26 : (m3.1 187 0).toInt = ((m1.1 187 0)).toInt := congrArg _ (g17.at (a := 187) (k := 0) (by decide))
    refine ⟨v4, rfl, ?_⟩
    refine ⟨?_, ?_⟩
    · intro c27
      have k28 := y_eqr (n := 0) rfl c27
      exact ⟨w_m3, f_m3, _, rfl⟩
    · intro c29
      have k30 := y_ner (n := 0) rfl c29
      refine ⟨?_, ?_⟩
      · intro c31
        have r32 := w_m3.at (a := 187) (k := 11) rfl
        have k33 := y_ner (n := 0) rfl c31
        refine (s_X12_lay_202 w_m3 (by show (0 : Int) ≤ (0 : Int); omega) (by show (0 : Int) ≤ (0 : Int); omega)).to ?_
        rintro _ m5 ⟨w_m5, g34, rfl⟩
        have f_m5 : Fx (RS [20, 22, 24, 26, 28, 29, 30, 31, 46, 49]) m m5 := f_m3.tr g34 (RS_sub rfl)
        have e35 : (m5.1 187 11).toInt = ((m3.1 187 11)).toInt := congrArg _ (g34.at (a := 187) (k := 11) (by decide))
        have e36 : (m5.1 187 10).toInt = ((m3.1 187 10)).toInt := congrArg _ (g34.at (a := 187) (k := 10) (by decide))
        have e37 : (m5.1 187 16).toInt = ((m3.1 187 16)).toInt := congrArg _ (g34.at (a := 187) (k := 16) (by decide))
        have e38 : (m5.1 187 1).toInt = ((m3.1 187 1)).toInt := congrArg _ (g34.at (a := 187) (k := 1) (by decide))
        have e39 : (m5.1 187 0).toInt = ((m3.1 187 0)).toInt := congrArg _ (g34.at (a := 187) (k := 0) (by decide))
        refine ⟨rfl, ?_⟩
        have r40 := w_m5.at (a := 187) (k := 11) rfl
        refine (s_X12_pointsBehind w_m5 (by show (0 : Int) ≤ (x1).toInt; omega) (by show (x1).toInt ≤ (7 : Int); omega) (by show (0 : Int) ≤ (x2).toInt; omega) (by show (x2).toInt ≤ (50 : Int); omega) (by show 1 ≤ ((m5.1 187 11)).toInt; omega)).to ?_
        rintro _ m6 ⟨w_m6, g41, v7, rfl⟩
        have f_m6 : Fx (RS [20, 22, 24, 26, 28, 29, 30, 31, 46, 49]) m m6 := f_m5.tr g41 (RS_sub rfl)
        have e42 : (m6.1 187 11).toInt = ((m5.1 187 11)).toInt := congrArg _ (g41.at (a := 187) (k := 11) (by decide))
        have e43 : (m6.1 187 10).toInt = ((m5.1 187 10)).toInt := congrArg _ (g41.at (a := 187) (k := 10) (by decide))
        have e44 : (m6.1 187 16).toInt = ((m5.1 187 16)).toInt := congrArg _ (g41.at (a := 187) (k := 16) (by decide))
        have e45 : (m6.1 187 1).toInt = ((m5.1 187 1)).toInt := congrArg _ (g41.at (a := 187) (k := 1) (by decide))
        have e46 : (m6.1 187 0).toInt = ((m5.1 187 0)).toInt := congrArg _ (g41.at (a := 187) (k := 0) (by decide))
        refine ⟨v7, rfl, ?_⟩
        refine ⟨?_, ?_⟩
        · exact vpi (by omega) (by omega)
        · refine ⟨?_, ?_⟩
          · intro c47
            have k48 := y_ner (n := 0) rfl c47
            have r49 := w_m6.at (a := 187) (k := 11) rfl
            exact (l_X12_pays (m0 := m) 1000000).1 _ _ _ _ _ _ w_m6 f_m6 (by show (0 : Int) ≤ (x1).toInt; omega) (by show (x1).toInt ≤ (7 : Int); omega) (by show (0 : Int) ≤ (x2).toInt; omega) (by show (x2).toInt ≤ (50 : Int); omega) (by show (0 : Int) ≤ (x1).toInt; omega) (by show (x1).toInt ≤ (7 : Int); omega) (by show 1 ≤ ((m6.1 187 11)).toInt; omega) (by show 0 * (x1).toInt + 2 < _; omega)
          · intro c50
            have k51 := y_eqr (n := 0) rfl c50
            have r52 := w_m6.at (a := 187) (k := 11) rfl
            exact (l_X12_pays (m0 := m) 1000000).1 _ _ _ _ _ _ w_m6 f_m6 (by show (0 : Int) ≤ (x1).toInt; omega) (by show (x1).toInt ≤ (7 : Int); omega) (by show (0 : Int) ≤ (x2).toInt; omega) (by show (x2).toInt ≤ (50 : Int); omega) (by show (0 : Int) ≤ (x1).toInt; omega) (by show (x1).toInt ≤ (7 : Int); omega) (by show 1 ≤ ((m6.1 187 11)).toInt; omega) (by show 0 * (x1).toInt + 2 < _; omega)
      · intro c53
        have r54 := w_m3.at (a := 187) (k := 11) rfl
        have k55 := y_eqr (n := 0) rfl c53
        exact ⟨w_m3, f_m3, _, rfl⟩
set_option maxHeartbeats 4000000 in
theorem l_X12_laws {ad : Nat → Nat} {d : Nat} {m0 : Wm}  : ∀ n : Nat, (∀ (m : Wm) (x1 x2 x3 x4 x5 : Int32), WT m → Fx (RS [20, 22, 24, 26, 28, 29, 30, 31, 47, 49]) m0 m → (0 : Int) ≤ x1.toInt → x1.toInt ≤ (50 : Int) → (0 : Int) ≤ x5.toInt → x5.toInt ≤ (4 : Int) → (1 ≤ (m.1 187 11).toInt) → ((m.1 187 16).toInt = x5.toInt) → 4 - x5.toInt < (n : Int) → AW ad E0 μX12_laws (d + 172) (fun r m' => WT m' ∧ Fx (RS [20, 22, 24, 26, 28, 29, 30, 31, 47, 49]) m0 m' ∧ ∃ v : Int32, r = some (.int v)) 55 [(0, .ref (ad 187)), (1, .int x1), (2, .int x2), (3, .int x3), (4, .int x4), (5, .int x5)] [] m) := by
  intro n
  induction n with
  | zero =>
    intros
    exfalso
    omega
  | succ n ih =>
    intro m x1 x2 x3 x4 x5 w f j1 j2 j3 j4 j5 j6 hn
    refine g_X12_laws_55  ?_
    refine ⟨?_, ?_⟩
    · intro c1
      have k2 := y_lel (n := 4) rfl c1
      have w3 : WT (uI m 193 ((0 : Int32).toNatClampNeg) x2) := w.n rfl
      have f3 : Fx (RS [20, 22, 24, 26, 28, 29, 30, 31, 47, 49]) m0 (uI m 193 ((0 : Int32).toNatClampNeg) x2) := f.i rfl
      exact ⟨w3, f3, _, rfl⟩
    · intro c4
      have k5 := y_nlel (n := 4) rfl c4
      have w6 : WT (uI m 193 ((0 : Int32).toNatClampNeg) x5) := w.n rfl
      have f6 : Fx (RS [20, 22, 24, 26, 28, 29, 30, 31, 47, 49]) m0 (uI m 193 ((0 : Int32).toNatClampNeg) x5) := f.i rfl
      have r7 := w.at (a := 187) (k := 11) rfl
      refine (s_X12_goRounds w6 (by show (0 : Int) ≤ (x1).toInt; omega) (by show (x1).toInt ≤ (200 : Int); omega) (by show 1 ≤ ((m.1 187 11)).toInt; omega)).to ?_
      rintro _ m1 ⟨w_m1, g8, rfl⟩
      have f_m1 : Fx (RS [20, 22, 24, 26, 28, 29, 30, 31, 47, 49]) m0 m1 := f6.tr g8 (RS_sub rfl)
      have e9 : (m1.1 187 11).toInt = ((m.1 187 11)).toInt := congrArg _ (g8.at (a := 187) (k := 11) (by decide))
      have e10 : (m1.1 187 10).toInt = ((m.1 187 10)).toInt := congrArg _ (g8.at (a := 187) (k := 10) (by decide))
      have e11 : (m1.1 187 16).toInt = ((m.1 187 16)).toInt := congrArg _ (g8.at (a := 187) (k := 16) (by decide))
      have e12 : (m1.1 187 1).toInt = ((m.1 187 1)).toInt := congrArg _ (g8.at (a := 187) (k := 1) (by decide))
      have e13 : (m1.1 187 0).toInt = ((m.1 187 0)).toInt := congrArg _ (g8.at (a := 187) (k := 0) (by decide))
      refine ⟨rfl, ?_⟩
      refine (s_X12_sumOfAll w_m1).to ?_
      rintro _ m2 ⟨w_m2, g14, v3, rfl⟩
      have f_m2 : Fx (RS [20, 22, 24, 26, 28, 29, 30, 31, 47, 49]) m0 m2 := f_m1.tr g14 (RS_sub rfl)
      have e15 : (m2.1 187 11).toInt = ((m1.1 187 11)).toInt := congrArg _ (g14.at (a := 187) (k := 11) (by decide))
      have e16 : (m2.1 187 10).toInt = ((m1.1 187 10)).toInt := congrArg _ (g14.at (a := 187) (k := 10) (by decide))
      have e17 : (m2.1 187 16).toInt = ((m1.1 187 16)).toInt := congrArg _ (g14.at (a := 187) (k := 16) (by decide))
      have e18 : (m2.1 187 1).toInt = ((m1.1 187 1)).toInt := congrArg _ (g14.at (a := 187) (k := 1) (by decide))
      have e19 : (m2.1 187 0).toInt = ((m1.1 187 0)).toInt := congrArg _ (g14.at (a := 187) (k := 0) (by decide))
      refine ⟨v3, rfl, ?_⟩
      refine (s_X12_bring_202 w_m2 (by show (0 : Int) ≤ (0 : Int); omega) (by show (0 : Int) ≤ (0 : Int); omega)).to ?_
      rintro _ m4 ⟨w_m4, g20, rfl⟩
      have f_m4 : Fx (RS [20, 22, 24, 26, 28, 29, 30, 31, 47, 49]) m0 m4 := f_m2.tr g20 (RS_sub rfl)
      have e21 : (m4.1 187 11).toInt = ((m2.1 187 11)).toInt := congrArg _ (g20.at (a := 187) (k := 11) (by decide))
      have e22 : (m4.1 187 10).toInt = ((m2.1 187 10)).toInt := congrArg _ (g20.at (a := 187) (k := 10) (by decide))
      have e23 : (m4.1 187 16).toInt = ((m2.1 187 16)).toInt := congrArg _ (g20.at (a := 187) (k := 16) (by decide))
      have e24 : (m4.1 187 1).toInt = ((m2.1 187 1)).toInt := congrArg _ (g20.at (a := 187) (k := 1) (by decide))
      have e25 : (m4.1 187 0).toInt = ((m2.1 187 0)).toInt := congrArg _ (g20.at (a := 187) (k := 0) (by decide))
      refine ⟨rfl, ?_⟩
      have r26 := w_m4.at (a := 187) (k := 16) rfl
      refine (s_X12_tell w_m4 (by show ((m4.1 187 16)).toInt ≤ 15; omega)).to ?_
      rintro _ m5 ⟨w_m5, g27, rfl, p28⟩
      have f_m5 : Fx (RS [20, 22, 24, 26, 28, 29, 30, 31, 47, 49]) m0 m5 := f_m4.tr g27 (RS_sub rfl)
      have p29 : (m5.1 187 16).toInt = ((m4.1 187 16)).toInt + 1 := p28
      clear p28
      have e30 : (m5.1 187 11).toInt = ((m4.1 187 11)).toInt := congrArg _ (g27.at (a := 187) (k := 11) (by decide))
      have e31 : (m5.1 187 10).toInt = ((m4.1 187 10)).toInt := congrArg _ (g27.at (a := 187) (k := 10) (by decide))
      have e32 : (m5.1 187 1).toInt = ((m4.1 187 1)).toInt := congrArg _ (g27.at (a := 187) (k := 1) (by decide))
      have e33 : (m5.1 187 0).toInt = ((m4.1 187 0)).toInt := congrArg _ (g27.at (a := 187) (k := 0) (by decide))
      refine ⟨rfl, ?_⟩
      refine ⟨?_, ?_⟩
      · intro c34
        have k35 := y_ler (n := 0) rfl c34
        have t36 := ti_addc (x := x5) (y := (1 : Int32)) (c := 1) rfl (by omega)
        have r37 := w_m5.at (a := 187) (k := 11) rfl
        have r38 := w_m5.at (a := 187) (k := 16) rfl
        exact ih _ _ _ _ _ _ w_m5 f_m5 (by show (0 : Int) ≤ (x1).toInt; omega) (by show (x1).toInt ≤ (50 : Int); omega) (by show (0 : Int) ≤ ((x5 + (1 : Int32))).toInt; omega) (by show ((x5 + (1 : Int32))).toInt ≤ (4 : Int); omega) (by show 1 ≤ ((m5.1 187 11)).toInt; omega) (by show ((m5.1 187 16)).toInt = ((x5 + (1 : Int32))).toInt; omega) (by show 4 - ((x5 + (1 : Int32))).toInt < _; omega)
      · intro c39
        have k40 := y_nler (n := 0) rfl c39
        refine ⟨?_, ?_⟩
        · intro c41
          have k42 := z_lt c41
          have t43 := ti_addc (x := x5) (y := (1 : Int32)) (c := 1) rfl (by omega)
          have r44 := w_m5.at (a := 187) (k := 11) rfl
          have r45 := w_m5.at (a := 187) (k := 16) rfl
          exact ih _ _ _ _ _ _ w_m5 f_m5 (by show (0 : Int) ≤ (x1).toInt; omega) (by show (x1).toInt ≤ (50 : Int); omega) (by show (0 : Int) ≤ ((x5 + (1 : Int32))).toInt; omega) (by show ((x5 + (1 : Int32))).toInt ≤ (4 : Int); omega) (by show 1 ≤ ((m5.1 187 11)).toInt; omega) (by show ((m5.1 187 16)).toInt = ((x5 + (1 : Int32))).toInt; omega) (by show 4 - ((x5 + (1 : Int32))).toInt < _; omega)
        · intro c46
          have k47 := z_nlt c46
          have t48 := ti_addc (x := x5) (y := (1 : Int32)) (c := 1) rfl (by omega)
          have r49 := w_m5.at (a := 187) (k := 11) rfl
          have r50 := w_m5.at (a := 187) (k := 16) rfl
          exact ih _ _ _ _ _ _ w_m5 f_m5 (by show (0 : Int) ≤ (x1).toInt; omega) (by show (x1).toInt ≤ (50 : Int); omega) (by show (0 : Int) ≤ ((x5 + (1 : Int32))).toInt; omega) (by show ((x5 + (1 : Int32))).toInt ≤ (4 : Int); omega) (by show 1 ≤ ((m5.1 187 11)).toInt; omega) (by show ((m5.1 187 16)).toInt = ((x5 + (1 : Int32))).toInt; omega) (by show 4 - ((x5 + (1 : Int32))).toInt < _; omega)
set_option maxHeartbeats 4000000 in
theorem s_X12_laws {ad : Nat → Nat} {d : Nat} {m : Wm} {x1 : Int32} (w : WT m) : Ct ad μX12_laws (d + 172) [.ref (ad 187), .int x1] m (fun r m' => WT m' ∧ Fx (RS [20, 22, 24, 26, 28, 29, 30, 31, 47, 49]) m m' ∧ ∃ v : Int32, r = some (.int v)) := by
  have f : Fx (RS [20, 22, 24, 26, 28, 29, 30, 31, 47, 49]) m m := Fx.rf
  refine v_X12_laws  ?_
  have w1 : WT (uI m 187 17 (0 : Int32)) := w.n rfl
  have f1 : Fx (RS [20, 22, 24, 26, 28, 29, 30, 31, 47, 49]) m (uI m 187 17 (0 : Int32)) := f.i rfl
  refine (s_X12_in (x := x1) (lo := (0 : Int32)) (hi := (50 : Int32)) w1 rfl rfl).to ?_
  rintro _ m1 ⟨w_m1, g2, v2, rfl, p4, p5, p3⟩
  have f_m1 : Fx (RS [20, 22, 24, 26, 28, 29, 30, 31, 47, 49]) m m1 := f1.tr g2 (RS_sub rfl)
  have p6 : (v2.toInt = 0 ∧ ((x1).toInt < (0 : Int) ∨ (50 : Int) < (x1).toInt)) ∨ (v2.toInt = 1 ∧ (0 : Int) ≤ (x1).toInt ∧ (x1).toInt ≤ (50 : Int)) := p3
  clear p3
  have e7 : (m1.1 187 11).toInt = ((m.1 187 11)).toInt := congrArg _ (g2.at (a := 187) (k := 11) (by decide))
  have e8 : (m1.1 187 10).toInt = ((m.1 187 10)).toInt := congrArg _ (g2.at (a := 187) (k := 10) (by decide))
  have e9 : (m1.1 187 16).toInt = ((m.1 187 16)).toInt := congrArg _ (g2.at (a := 187) (k := 16) (by decide))
  have e10 : (m1.1 187 1).toInt = ((m.1 187 1)).toInt := congrArg _ (g2.at (a := 187) (k := 1) (by decide))
  have e11 : (m1.1 187 0).toInt = ((m.1 187 0)).toInt := congrArg _ (g2.at (a := 187) (k := 0) (by decide))
  refine ⟨v2, rfl, ?_⟩
  refine ⟨?_, ?_⟩
  · intro c12
    have k13 := y_eqr (n := 0) rfl c12
    exact ⟨w_m1, f_m1, _, rfl⟩
  · intro c14
    have k15 := y_ner (n := 0) rfl c14
    refine ⟨?_, ?_⟩
    · intro c16
      have r17 := w_m1.at (a := 187) (k := 11) rfl
      have k18 := y_ner (n := 0) rfl c16
      refine (s_X12_lay_202 w_m1 (by show (0 : Int) ≤ (0 : Int); omega) (by show (0 : Int) ≤ (0 : Int); omega)).to ?_
      rintro _ m3 ⟨w_m3, g19, rfl⟩
      have f_m3 : Fx (RS [20, 22, 24, 26, 28, 29, 30, 31, 47, 49]) m m3 := f_m1.tr g19 (RS_sub rfl)
      have e20 : (m3.1 187 11).toInt = ((m1.1 187 11)).toInt := congrArg _ (g19.at (a := 187) (k := 11) (by decide))
      have e21 : (m3.1 187 10).toInt = ((m1.1 187 10)).toInt := congrArg _ (g19.at (a := 187) (k := 10) (by decide))
      have e22 : (m3.1 187 16).toInt = ((m1.1 187 16)).toInt := congrArg _ (g19.at (a := 187) (k := 16) (by decide))
      have e23 : (m3.1 187 1).toInt = ((m1.1 187 1)).toInt := congrArg _ (g19.at (a := 187) (k := 1) (by decide))
      have e24 : (m3.1 187 0).toInt = ((m1.1 187 0)).toInt := congrArg _ (g19.at (a := 187) (k := 0) (by decide))
      refine ⟨rfl, ?_⟩
      have w25 : WT (uI m3 187 16 (0 : Int32)) := w_m3.t rfl (by show (0 : Int) ≤ (0 : Int); omega) (by show (0 : Int) ≤ 16; omega)
      have f25 : Fx (RS [20, 22, 24, 26, 28, 29, 30, 31, 47, 49]) m (uI m3 187 16 (0 : Int32)) := f_m3.i rfl
      have r26 := w_m3.at (a := 187) (k := 11) rfl
      exact (l_X12_laws (m0 := m) 1000000) _ _ _ _ _ _ w25 f25 (by show (0 : Int) ≤ (x1).toInt; omega) (by show (x1).toInt ≤ (50 : Int); omega) (by show (0 : Int) ≤ (0 : Int); omega) (by show (0 : Int) ≤ (4 : Int); omega) (by show 1 ≤ ((m3.1 187 11)).toInt; omega) (by show (0 : Int) = (0 : Int); omega) (by show 4 - (0 : Int) < _; omega)
    · intro c27
      have r28 := w_m1.at (a := 187) (k := 11) rfl
      have k29 := y_eqr (n := 0) rfl c27
      exact ⟨w_m1, f_m1, _, rfl⟩
set_option maxHeartbeats 4000000 in
theorem s_X12_seed {ad : Nat → Nat} {d : Nat} {m : Wm} {x1 : Int32} (w : WT m) : Ct ad μX12_seed d [.ref (ad 187), .int x1] m (fun r m' => WT m' ∧ Fx (RS [20, 49]) m m' ∧ ∃ v : Int32, r = some (.int v)) := by
  have f : Fx (RS [20, 49]) m m := Fx.rf
  refine v_X12_seed  ?_
  have w1 : WT (uI m 187 17 (0 : Int32)) := w.n rfl
  have f1 : Fx (RS [20, 49]) m (uI m 187 17 (0 : Int32)) := f.i rfl
  have w2 : WT (uI (uI m 187 17 (0 : Int32)) 187 8 x1) := w1.n rfl
  have f2 : Fx (RS [20, 49]) m (uI (uI m 187 17 (0 : Int32)) 187 8 x1) := f1.i rfl
  exact ⟨w2, f2, _, rfl⟩
set_option maxHeartbeats 4000000 in
theorem l_X12_keep {ad : Nat → Nat} {d : Nat} {m0 : Wm} {x1 : Int32} (hxx10 : 0 ≤ x1.toInt) (hxx11 : x1.toInt < 2) : ∀ n : Nat, (∀ (m : Wm) (x2 x3 : Int32), WT m → Fx (RS [20, 40]) m0 m → (57 : Int) ≤ x2.toInt → x2.toInt ≤ (128 : Int) → (0 : Int) ≤ x3.toInt → x3.toInt ≤ (8 : Int) → (8 - x3.toInt) + 100 < (n : Int) → AW ad E0 μX12_keep (d + 1) (fun r m' => WT m' ∧ Fx (RS [20, 40]) m0 m' ∧ ∃ v : Int32, r = some (.int v) ∧ (0 : Int) ≤ v.toInt ∧ v.toInt ≤ 1 ∧ ((v.toInt = 1 ∧ 0 ≤ x1.toInt ∧ x1.toInt < 2) ∨ (v.toInt = 0 ∧ (x1.toInt < 0 ∨ 2 ≤ x1.toInt)))) 53 [(0, .ref (ad 187)), (2, .int x2), (3, .int x3)] [] m) ∧ (∀ (m : Wm) (x2 x3 : Int32), WT m → Fx (RS [20, 40]) m0 m → (65 : Int) ≤ x2.toInt → x2.toInt ≤ (136 : Int) → (0 : Int) ≤ x3.toInt → x3.toInt ≤ (5 : Int) → 5 - x3.toInt < (n : Int) → AW ad E0 μX12_keep (d + 1) (fun r m' => WT m' ∧ Fx (RS [20, 40]) m0 m' ∧ ∃ v : Int32, r = some (.int v) ∧ (0 : Int) ≤ v.toInt ∧ v.toInt ≤ 1 ∧ ((v.toInt = 1 ∧ 0 ≤ x1.toInt ∧ x1.toInt < 2) ∨ (v.toInt = 0 ∧ (x1.toInt < 0 ∨ 2 ≤ x1.toInt)))) 92 [(0, .ref (ad 187)), (2, .int x2), (3, .int x3)] [] m) := by
  intro n
  induction n with
  | zero =>
    refine ⟨?_, ?_⟩ <;> intros <;> exfalso <;> omega
  | succ n ih =>
    refine ⟨?_, ?_⟩
    · intro m x2 x3 w f j1 j2 j3 j4 hn
      refine g_X12_keep_53  ?_
      refine ⟨?_, ?_⟩
      · intro c1
        have k2 := y_lel (n := 8) rfl c1
        have t3 := ti_addc (x := x2) (y := (8 : Int32)) (c := 8) rfl (by omega)
        exact ih.2 _ _ _ w f (by show (65 : Int) ≤ ((x2 + (8 : Int32))).toInt; omega) (by show ((x2 + (8 : Int32))).toInt ≤ (136 : Int); omega) (by show (0 : Int) ≤ (0 : Int); omega) (by show (0 : Int) ≤ (5 : Int); omega) (by show 5 - (0 : Int) < _; omega)
      · intro c4
        have k5 := y_nlel (n := 8) rfl c4
        refine ⟨?_, ?_⟩
        · exact vpi (by omega) (by omega)
        · refine ⟨?_, ?_⟩
          · intro c6
            have k7 := y_eqr (n := 0) rfl c6
            refine ⟨?_, ?_⟩
            · have t8 := ti_add (x := x2) (y := x3) (by omega)
              exact vpi (by omega) (by omega)
            · have w9 : WT (uI m 214 ((x2 + x3).toNatClampNeg) (0 : Int32)) := w.n rfl
              have f9 : Fx (RS [20, 40]) m0 (uI m 214 ((x2 + x3).toNatClampNeg) (0 : Int32)) := f.i rfl
              have t10 := ti_addc (x := x3) (y := (1 : Int32)) (c := 1) rfl (by omega)
              exact ih.1 _ _ _ w9 f9 (by show (57 : Int) ≤ (x2).toInt; omega) (by show (x2).toInt ≤ (128 : Int); omega) (by show (0 : Int) ≤ ((x3 + (1 : Int32))).toInt; omega) (by show ((x3 + (1 : Int32))).toInt ≤ (8 : Int); omega) (by show (8 - ((x3 + (1 : Int32))).toInt) + 100 < _; omega)
          · intro c11
            have k12 := y_ner (n := 0) rfl c11
            refine ⟨?_, ?_⟩
            · have t13 := ti_add (x := x2) (y := x3) (by omega)
              exact vpi (by omega) (by omega)
            · have w14 : WT (uI m 214 ((x2 + x3).toNatClampNeg) (1 : Int32)) := w.n rfl
              have f14 : Fx (RS [20, 40]) m0 (uI m 214 ((x2 + x3).toNatClampNeg) (1 : Int32)) := f.i rfl
              have t15 := ti_addc (x := x3) (y := (1 : Int32)) (c := 1) rfl (by omega)
              exact ih.1 _ _ _ w14 f14 (by show (57 : Int) ≤ (x2).toInt; omega) (by show (x2).toInt ≤ (128 : Int); omega) (by show (0 : Int) ≤ ((x3 + (1 : Int32))).toInt; omega) (by show ((x3 + (1 : Int32))).toInt ≤ (8 : Int); omega) (by show (8 - ((x3 + (1 : Int32))).toInt) + 100 < _; omega)
    · intro m x2 x3 w f j1 j2 j3 j4 hn
      refine g_X12_keep_92  ?_
      refine ⟨?_, ?_⟩
      · intro c1
        have k2 := y_lel (n := 5) rfl c1
        refine ⟨?_, ?_⟩
        · have t3 := ti_addc (x := x2) (y := (5 : Int32)) (c := 5) rfl (by omega)
          exact vpi (by omega) (by omega)
        · have w4 : WT (uI m 214 ((x2 + (5 : Int32)).toNatClampNeg) (m.1 187 12)) := w.n rfl
          have f4 : Fx (RS [20, 40]) m0 (uI m 214 ((x2 + (5 : Int32)).toNatClampNeg) (m.1 187 12)) := f.i rfl
          exact ⟨w4, f4, _, rfl, (by show (0 : Int) ≤ (1 : Int); omega), (by show (1 : Int) ≤ (1 : Int); omega), (by show ((1 : Int) = 1 ∧ 0 ≤ x1.toInt ∧ x1.toInt < 2) ∨ ((1 : Int) = 0 ∧ (x1.toInt < 0 ∨ 2 ≤ x1.toInt)); omega)⟩
      · intro c5
        have k6 := y_nlel (n := 5) rfl c5
        refine ⟨?_, ?_⟩
        · exact vpi (by omega) (by omega)
        · refine ⟨?_, ?_⟩
          · have t7 := ti_add (x := x2) (y := x3) (by omega)
            exact vpi (by omega) (by omega)
          · have w8 : WT (uI m 214 ((x2 + x3).toNatClampNeg) (m.1 193 x3.toNatClampNeg)) := w.n rfl
            have f8 : Fx (RS [20, 40]) m0 (uI m 214 ((x2 + x3).toNatClampNeg) (m.1 193 x3.toNatClampNeg)) := f.i rfl
            have t9 := ti_addc (x := x3) (y := (1 : Int32)) (c := 1) rfl (by omega)
            exact ih.2 _ _ _ w8 f8 (by show (65 : Int) ≤ (x2).toInt; omega) (by show (x2).toInt ≤ (136 : Int); omega) (by show (0 : Int) ≤ ((x3 + (1 : Int32))).toInt; omega) (by show ((x3 + (1 : Int32))).toInt ≤ (5 : Int); omega) (by show 5 - ((x3 + (1 : Int32))).toInt < _; omega)
set_option maxHeartbeats 4000000 in
theorem s_X12_keep {ad : Nat → Nat} {d : Nat} {m : Wm} {x1 : Int32} (w : WT m) : Ct ad μX12_keep (d + 1) [.ref (ad 187), .int x1] m (fun r m' => WT m' ∧ Fx (RS [20, 40]) m m' ∧ ∃ v : Int32, r = some (.int v) ∧ (0 : Int) ≤ v.toInt ∧ v.toInt ≤ 1 ∧ ((v.toInt = 1 ∧ 0 ≤ x1.toInt ∧ x1.toInt < 2) ∨ (v.toInt = 0 ∧ (x1.toInt < 0 ∨ 2 ≤ x1.toInt)))) := by
  have f : Fx (RS [20, 40]) m m := Fx.rf
  refine v_X12_keep  ?_
  have w1 : WT (uI m 187 17 (0 : Int32)) := w.n rfl
  have f1 : Fx (RS [20, 40]) m (uI m 187 17 (0 : Int32)) := f.i rfl
  refine (s_X12_in (x := x1) (lo := (0 : Int32)) (hi := (1 : Int32)) w1 rfl rfl).to ?_
  rintro _ m1 ⟨w_m1, g2, v2, rfl, p4, p5, p3⟩
  have f_m1 : Fx (RS [20, 40]) m m1 := f1.tr g2 (RS_sub rfl)
  have p6 : (v2.toInt = 0 ∧ ((x1).toInt < (0 : Int) ∨ (1 : Int) < (x1).toInt)) ∨ (v2.toInt = 1 ∧ (0 : Int) ≤ (x1).toInt ∧ (x1).toInt ≤ (1 : Int)) := p3
  clear p3
  have e7 : (m1.1 187 1).toInt = ((m.1 187 1)).toInt := congrArg _ (g2.at (a := 187) (k := 1) (by decide))
  have e8 : (m1.1 187 0).toInt = ((m.1 187 0)).toInt := congrArg _ (g2.at (a := 187) (k := 0) (by decide))
  refine ⟨v2, rfl, ?_⟩
  refine ⟨?_, ?_⟩
  · intro c9
    have k10 := y_ner (n := 0) rfl c9
    refine ⟨?_, ?_⟩
    · exact vpi (by omega) (by omega)
    · refine ⟨?_, ?_⟩
      · exact vpi (by omega) (by omega)
      · have w11 : WT (uI m1 215 x1.toNatClampNeg (vp_nar .boolean (1 : Int32))) := w_m1.n rfl
        have f11 : Fx (RS [20, 40]) m (uI m1 215 x1.toNatClampNeg (vp_nar .boolean (1 : Int32))) := f_m1.i rfl
        have w12 : WT (uI (uI m1 215 x1.toNatClampNeg (vp_nar .boolean (1 : Int32))) 216 x1.toNatClampNeg ((uI m1 215 x1.toNatClampNeg (vp_nar .boolean (1 : Int32))).1 187 53)) := w11.n rfl
        have f12 : Fx (RS [20, 40]) m (uI (uI m1 215 x1.toNatClampNeg (vp_nar .boolean (1 : Int32))) 216 x1.toNatClampNeg ((uI m1 215 x1.toNatClampNeg (vp_nar .boolean (1 : Int32))).1 187 53)) := f11.i rfl
        have t13 := ti_mulc (c := 71) (y := (71 : Int32)) (x := x1) rfl (by omega)
        refine (s_X12_lay_214 w12 (by show (0 : Int) ≤ (((71 : Int32) * x1)).toInt; omega) (by show (((71 : Int32) * x1)).toInt ≤ (71 : Int); omega)).to ?_
        rintro _ m3 ⟨w_m3, g14, rfl⟩
        have f_m3 : Fx (RS [20, 40]) m m3 := f12.tr g14 (RS_sub rfl)
        have e15 : (m3.1 187 1).toInt = ((m1.1 187 1)).toInt := congrArg _ (g14.at (a := 187) (k := 1) (by decide))
        have e16 : (m3.1 187 0).toInt = ((m1.1 187 0)).toInt := congrArg _ (g14.at (a := 187) (k := 0) (by decide))
        refine ⟨rfl, ?_⟩
        have t17 := ti_addc (x := ((71 : Int32) * x1)) (y := (57 : Int32)) (c := 57) rfl (by omega)
        exact (l_X12_keep (m0 := m) (x1 := x1) (by omega) (by omega) 1000000).1 _ _ _ w_m3 f_m3 (by show (57 : Int) ≤ ((((71 : Int32) * x1) + (57 : Int32))).toInt; omega) (by show ((((71 : Int32) * x1) + (57 : Int32))).toInt ≤ (128 : Int); omega) (by show (0 : Int) ≤ (0 : Int); omega) (by show (0 : Int) ≤ (8 : Int); omega) (by show (8 - (0 : Int)) + 100 < _; omega)
  · intro c18
    have k19 := y_eqr (n := 0) rfl c18
    exact ⟨w_m1, f_m1, _, rfl, (by show (0 : Int) ≤ (0 : Int); omega), (by show (0 : Int) ≤ (1 : Int); omega), (by show ((0 : Int) = 1 ∧ 0 ≤ x1.toInt ∧ x1.toInt < 2) ∨ ((0 : Int) = 0 ∧ (x1.toInt < 0 ∨ 2 ≤ x1.toInt)); omega)⟩
set_option maxHeartbeats 4000000 in
theorem l_X12_again {ad : Nat → Nat} {d : Nat} {m0 : Wm}  : ∀ n : Nat, (∀ (m : Wm) (x2 x3 : Int32), WT m → Fx (RS [20, 24, 29, 46, 47, 49, 52]) m0 m → (57 : Int) ≤ x2.toInt → x2.toInt ≤ (128 : Int) → (0 : Int) ≤ x3.toInt → x3.toInt ≤ (8 : Int) → ((m.1 187 11).toInt = (m0.1 187 11).toInt) → ((m.1 187 10).toInt = (m0.1 187 10).toInt) → (8 - x3.toInt) + 100 < (n : Int) → AW ad E0 μX12_again (d + 1) (fun r m' => WT m' ∧ Fx (RS [20, 24, 29, 46, 47, 49, 52]) m0 m' ∧ ∃ v : Int32, r = some (.int v) ∧ (0 : Int) ≤ v.toInt ∧ v.toInt ≤ 1 ∧ ((m'.1 187 11).toInt = (m0.1 187 11).toInt) ∧ ((m'.1 187 10).toInt = (m0.1 187 10).toInt)) 58 [(0, .ref (ad 187)), (2, .int x2), (3, .int x3)] [] m) ∧ (∀ (m : Wm) (x2 x3 : Int32), WT m → Fx (RS [20, 24, 29, 46, 47, 49, 52]) m0 m → (65 : Int) ≤ x2.toInt → x2.toInt ≤ (136 : Int) → (0 : Int) ≤ x3.toInt → x3.toInt ≤ (5 : Int) → ((m.1 187 11).toInt = (m0.1 187 11).toInt) → ((m.1 187 10).toInt = (m0.1 187 10).toInt) → 5 - x3.toInt < (n : Int) → AW ad E0 μX12_again (d + 1) (fun r m' => WT m' ∧ Fx (RS [20, 24, 29, 46, 47, 49, 52]) m0 m' ∧ ∃ v : Int32, r = some (.int v) ∧ (0 : Int) ≤ v.toInt ∧ v.toInt ≤ 1 ∧ ((m'.1 187 11).toInt = (m0.1 187 11).toInt) ∧ ((m'.1 187 10).toInt = (m0.1 187 10).toInt)) 98 [(0, .ref (ad 187)), (2, .int x2), (3, .int x3)] [] m) := by
  intro n
  induction n with
  | zero =>
    refine ⟨?_, ?_⟩ <;> intros <;> exfalso <;> omega
  | succ n ih =>
    refine ⟨?_, ?_⟩
    · intro m x2 x3 w f j1 j2 j3 j4 j5 j6 hn
      refine g_X12_again_58  ?_
      refine ⟨?_, ?_⟩
      · intro c1
        have k2 := y_lel (n := 8) rfl c1
        have t3 := ti_addc (x := x2) (y := (8 : Int32)) (c := 8) rfl (by omega)
        have r4 := w.at (a := 187) (k := 11) rfl
        have r5 := w.at (a := 187) (k := 10) rfl
        exact ih.2 _ _ _ w f (by show (65 : Int) ≤ ((x2 + (8 : Int32))).toInt; omega) (by show ((x2 + (8 : Int32))).toInt ≤ (136 : Int); omega) (by show (0 : Int) ≤ (0 : Int); omega) (by show (0 : Int) ≤ (5 : Int); omega) (by show ((m.1 187 11)).toInt = (m0.1 187 11).toInt; omega) (by show ((m.1 187 10)).toInt = (m0.1 187 10).toInt; omega) (by show 5 - (0 : Int) < _; omega)
      · intro c6
        have k7 := y_nlel (n := 8) rfl c6
        refine ⟨?_, ?_⟩
        · have t8 := ti_add (x := x2) (y := x3) (by omega)
          exact vpi (by omega) (by omega)
        · refine ⟨?_, ?_⟩
          · intro c9
            have k10 := y_ner (n := 1) rfl c9
            refine ⟨?_, ?_⟩
            · exact vpi (by omega) (by omega)
            · have w11 : WT (uI m 189 x3.toNatClampNeg (vp_nar .boolean (0 : Int32))) := w.n rfl
              have f11 : Fx (RS [20, 24, 29, 46, 47, 49, 52]) m0 (uI m 189 x3.toNatClampNeg (vp_nar .boolean (0 : Int32))) := f.i rfl
              have t12 := ti_addc (x := x3) (y := (1 : Int32)) (c := 1) rfl (by omega)
              have r13 := w.at (a := 187) (k := 11) rfl
              have r14 := w.at (a := 187) (k := 10) rfl
              exact ih.1 _ _ _ w11 f11 (by show (57 : Int) ≤ (x2).toInt; omega) (by show (x2).toInt ≤ (128 : Int); omega) (by show (0 : Int) ≤ ((x3 + (1 : Int32))).toInt; omega) (by show ((x3 + (1 : Int32))).toInt ≤ (8 : Int); omega) (by show ((m.1 187 11)).toInt = (m0.1 187 11).toInt; omega) (by show ((m.1 187 10)).toInt = (m0.1 187 10).toInt; omega) (by show (8 - ((x3 + (1 : Int32))).toInt) + 100 < _; omega)
          · intro c15
            have k16 := y_eqr (n := 1) rfl c15
            refine ⟨?_, ?_⟩
            · exact vpi (by omega) (by omega)
            · have w17 : WT (uI m 189 x3.toNatClampNeg (vp_nar .boolean (1 : Int32))) := w.n rfl
              have f17 : Fx (RS [20, 24, 29, 46, 47, 49, 52]) m0 (uI m 189 x3.toNatClampNeg (vp_nar .boolean (1 : Int32))) := f.i rfl
              have t18 := ti_addc (x := x3) (y := (1 : Int32)) (c := 1) rfl (by omega)
              have r19 := w.at (a := 187) (k := 11) rfl
              have r20 := w.at (a := 187) (k := 10) rfl
              exact ih.1 _ _ _ w17 f17 (by show (57 : Int) ≤ (x2).toInt; omega) (by show (x2).toInt ≤ (128 : Int); omega) (by show (0 : Int) ≤ ((x3 + (1 : Int32))).toInt; omega) (by show ((x3 + (1 : Int32))).toInt ≤ (8 : Int); omega) (by show ((m.1 187 11)).toInt = (m0.1 187 11).toInt; omega) (by show ((m.1 187 10)).toInt = (m0.1 187 10).toInt; omega) (by show (8 - ((x3 + (1 : Int32))).toInt) + 100 < _; omega)
    · intro m x2 x3 w f j1 j2 j3 j4 j5 j6 hn
      refine g_X12_again_98  ?_
      refine ⟨?_, ?_⟩
      · intro c1
        have k2 := y_lel (n := 5) rfl c1
        refine ⟨?_, ?_⟩
        · intro c3
          have r4 := w.at (a := 187) (k := 11) rfl
          have k5 := y_ner (n := 0) rfl c3
          refine ⟨?_, ?_⟩
          · have t6 := ti_addc (x := x2) (y := (5 : Int32)) (c := 5) rfl (by omega)
            exact vpi (by omega) (by omega)
          · refine ⟨?_, ?_⟩
            · first | assumption | (show ¬ (m.1 187 11) = (0 : Int32); exact y_nn (n := 0) rfl (by omega))
            · have w7 : WT (uI m 187 12 ((m.1 214 ((x2 + (5 : Int32)).toNatClampNeg)) - (((m.1 214 ((x2 + (5 : Int32)).toNatClampNeg)) / (m.1 187 11)) * (m.1 187 11)))) := w.n rfl
              have f7 : Fx (RS [20, 24, 29, 46, 47, 49, 52]) m0 (uI m 187 12 ((m.1 214 ((x2 + (5 : Int32)).toNatClampNeg)) - (((m.1 214 ((x2 + (5 : Int32)).toNatClampNeg)) / (m.1 187 11)) * (m.1 187 11)))) := f.i rfl
              have w8 : WT (uI (uI m 187 12 ((m.1 214 ((x2 + (5 : Int32)).toNatClampNeg)) - (((m.1 214 ((x2 + (5 : Int32)).toNatClampNeg)) / (m.1 187 11)) * (m.1 187 11)))) 187 30 (0 : Int32)) := w7.t rfl (by show (0 : Int) ≤ (0 : Int); omega) (by show (0 : Int) ≤ 20; omega)
              have f8 : Fx (RS [20, 24, 29, 46, 47, 49, 52]) m0 (uI (uI m 187 12 ((m.1 214 ((x2 + (5 : Int32)).toNatClampNeg)) - (((m.1 214 ((x2 + (5 : Int32)).toNatClampNeg)) / (m.1 187 11)) * (m.1 187 11)))) 187 30 (0 : Int32)) := f7.i rfl
              have r9 := w.at (a := 187) (k := 10) rfl
              exact ⟨w8, f8, _, rfl, (by show (0 : Int) ≤ (1 : Int); omega), (by show (1 : Int) ≤ (1 : Int); omega), (by show ((m.1 187 11)).toInt = (m0.1 187 11).toInt; omega), (by show ((m.1 187 10)).toInt = (m0.1 187 10).toInt; omega)⟩
        · intro c10
          have r11 := w.at (a := 187) (k := 11) rfl
          have k12 := y_eqr (n := 0) rfl c10
          have w13 : WT (uI m 187 12 (0 : Int32)) := w.n rfl
          have f13 : Fx (RS [20, 24, 29, 46, 47, 49, 52]) m0 (uI m 187 12 (0 : Int32)) := f.i rfl
          have w14 : WT (uI (uI m 187 12 (0 : Int32)) 187 30 (0 : Int32)) := w13.t rfl (by show (0 : Int) ≤ (0 : Int); omega) (by show (0 : Int) ≤ 20; omega)
          have f14 : Fx (RS [20, 24, 29, 46, 47, 49, 52]) m0 (uI (uI m 187 12 (0 : Int32)) 187 30 (0 : Int32)) := f13.i rfl
          have r15 := w.at (a := 187) (k := 10) rfl
          exact ⟨w14, f14, _, rfl, (by show (0 : Int) ≤ (1 : Int); omega), (by show (1 : Int) ≤ (1 : Int); omega), (by show ((m.1 187 11)).toInt = (m0.1 187 11).toInt; omega), (by show ((m.1 187 10)).toInt = (m0.1 187 10).toInt; omega)⟩
      · intro c16
        have k17 := y_nlel (n := 5) rfl c16
        refine ⟨?_, ?_⟩
        · have t18 := ti_add (x := x2) (y := x3) (by omega)
          exact vpi (by omega) (by omega)
        · refine ⟨?_, ?_⟩
          · exact vpi (by omega) (by omega)
          · have w19 : WT (uI m 193 x3.toNatClampNeg (m.1 214 ((x2 + x3).toNatClampNeg))) := w.n rfl
            have f19 : Fx (RS [20, 24, 29, 46, 47, 49, 52]) m0 (uI m 193 x3.toNatClampNeg (m.1 214 ((x2 + x3).toNatClampNeg))) := f.i rfl
            have t20 := ti_addc (x := x3) (y := (1 : Int32)) (c := 1) rfl (by omega)
            have r21 := w.at (a := 187) (k := 11) rfl
            have r22 := w.at (a := 187) (k := 10) rfl
            exact ih.2 _ _ _ w19 f19 (by show (65 : Int) ≤ (x2).toInt; omega) (by show (x2).toInt ≤ (136 : Int); omega) (by show (0 : Int) ≤ ((x3 + (1 : Int32))).toInt; omega) (by show ((x3 + (1 : Int32))).toInt ≤ (5 : Int); omega) (by show ((m.1 187 11)).toInt = (m0.1 187 11).toInt; omega) (by show ((m.1 187 10)).toInt = (m0.1 187 10).toInt; omega) (by show 5 - ((x3 + (1 : Int32))).toInt < _; omega)
set_option maxHeartbeats 4000000 in
theorem s_X12_again {ad : Nat → Nat} {d : Nat} {m : Wm} {x1 : Int32} (w : WT m) : Ct ad μX12_again (d + 1) [.ref (ad 187), .int x1] m (fun r m' => WT m' ∧ Fx (RS [20, 24, 29, 46, 47, 49, 52]) m m' ∧ ∃ v : Int32, r = some (.int v) ∧ (0 : Int) ≤ v.toInt ∧ v.toInt ≤ 1 ∧ ((m'.1 187 11).toInt = (m.1 187 11).toInt) ∧ ((m'.1 187 10).toInt = (m.1 187 10).toInt)) := by
  have f : Fx (RS [20, 24, 29, 46, 47, 49, 52]) m m := Fx.rf
  refine v_X12_again  ?_
  have w1 : WT (uI m 187 17 (0 : Int32)) := w.n rfl
  have f1 : Fx (RS [20, 24, 29, 46, 47, 49, 52]) m (uI m 187 17 (0 : Int32)) := f.i rfl
  refine (s_X12_in (x := x1) (lo := (0 : Int32)) (hi := (1 : Int32)) w1 rfl rfl).to ?_
  rintro _ m1 ⟨w_m1, g2, v2, rfl, p4, p5, p3⟩
  have f_m1 : Fx (RS [20, 24, 29, 46, 47, 49, 52]) m m1 := f1.tr g2 (RS_sub rfl)
  have p6 : (v2.toInt = 0 ∧ ((x1).toInt < (0 : Int) ∨ (1 : Int) < (x1).toInt)) ∨ (v2.toInt = 1 ∧ (0 : Int) ≤ (x1).toInt ∧ (x1).toInt ≤ (1 : Int)) := p3
  clear p3
  have e7 : (m1.1 187 11).toInt = ((m.1 187 11)).toInt := congrArg _ (g2.at (a := 187) (k := 11) (by decide))
  have e8 : (m1.1 187 10).toInt = ((m.1 187 10)).toInt := congrArg _ (g2.at (a := 187) (k := 10) (by decide))
  have e9 : (m1.1 187 1).toInt = ((m.1 187 1)).toInt := congrArg _ (g2.at (a := 187) (k := 1) (by decide))
  have e10 : (m1.1 187 0).toInt = ((m.1 187 0)).toInt := congrArg _ (g2.at (a := 187) (k := 0) (by decide))
  refine ⟨v2, rfl, ?_⟩
  refine ⟨?_, ?_⟩
  · intro c11
    have k12 := y_eqr (n := 0) rfl c11
    have r13 := w_m1.at (a := 187) (k := 11) rfl
    have r14 := w_m1.at (a := 187) (k := 10) rfl
    exact ⟨w_m1, f_m1, _, rfl, (by show (0 : Int) ≤ (0 : Int); omega), (by show (0 : Int) ≤ (1 : Int); omega), (by show ((m1.1 187 11)).toInt = (m.1 187 11).toInt; omega), (by show ((m1.1 187 10)).toInt = (m.1 187 10).toInt; omega)⟩
  · intro c15
    have k16 := y_ner (n := 0) rfl c15
    refine ⟨?_, ?_⟩
    · exact vpi (by omega) (by omega)
    · refine ⟨?_, ?_⟩
      · intro c17
        have k18 := y_eqr (n := 0) rfl c17
        have r19 := w_m1.at (a := 187) (k := 11) rfl
        have r20 := w_m1.at (a := 187) (k := 10) rfl
        exact ⟨w_m1, f_m1, _, rfl, (by show (0 : Int) ≤ (0 : Int); omega), (by show (0 : Int) ≤ (1 : Int); omega), (by show ((m1.1 187 11)).toInt = (m.1 187 11).toInt; omega), (by show ((m1.1 187 10)).toInt = (m.1 187 10).toInt; omega)⟩
      · intro c21
        have k22 := y_ner (n := 0) rfl c21
        refine ⟨?_, ?_⟩
        · exact vpi (by omega) (by omega)
        · refine ⟨?_, ?_⟩
          · intro c23
            have k24 := z_eq c23
            have t25 := ti_mulc (c := 71) (y := (71 : Int32)) (x := x1) rfl (by omega)
            refine (s_X12_bring_214 w_m1 (by show (0 : Int) ≤ (((71 : Int32) * x1)).toInt; omega) (by show (((71 : Int32) * x1)).toInt ≤ (71 : Int); omega)).to ?_
            rintro _ m3 ⟨w_m3, g26, rfl⟩
            have f_m3 : Fx (RS [20, 24, 29, 46, 47, 49, 52]) m m3 := f_m1.tr g26 (RS_sub rfl)
            have e27 : (m3.1 187 11).toInt = ((m1.1 187 11)).toInt := congrArg _ (g26.at (a := 187) (k := 11) (by decide))
            have e28 : (m3.1 187 10).toInt = ((m1.1 187 10)).toInt := congrArg _ (g26.at (a := 187) (k := 10) (by decide))
            have e29 : (m3.1 187 1).toInt = ((m1.1 187 1)).toInt := congrArg _ (g26.at (a := 187) (k := 1) (by decide))
            have e30 : (m3.1 187 0).toInt = ((m1.1 187 0)).toInt := congrArg _ (g26.at (a := 187) (k := 0) (by decide))
            refine ⟨rfl, ?_⟩
            have t31 := ti_addc (x := ((71 : Int32) * x1)) (y := (57 : Int32)) (c := 57) rfl (by omega)
            have r32 := w_m3.at (a := 187) (k := 11) rfl
            have r33 := w_m3.at (a := 187) (k := 10) rfl
            exact (l_X12_again (m0 := m) 1000000).1 _ _ _ w_m3 f_m3 (by show (57 : Int) ≤ ((((71 : Int32) * x1) + (57 : Int32))).toInt; omega) (by show ((((71 : Int32) * x1) + (57 : Int32))).toInt ≤ (128 : Int); omega) (by show (0 : Int) ≤ (0 : Int); omega) (by show (0 : Int) ≤ (8 : Int); omega) (by show ((m3.1 187 11)).toInt = (m.1 187 11).toInt; omega) (by show ((m3.1 187 10)).toInt = (m.1 187 10).toInt; omega) (by show (8 - (0 : Int)) + 100 < _; omega)
          · intro c34
            have k35 := z_ne c34
            have r36 := w_m1.at (a := 187) (k := 11) rfl
            have r37 := w_m1.at (a := 187) (k := 10) rfl
            exact ⟨w_m1, f_m1, _, rfl, (by show (0 : Int) ≤ (0 : Int); omega), (by show (0 : Int) ≤ (1 : Int); omega), (by show ((m1.1 187 11)).toInt = (m.1 187 11).toInt; omega), (by show ((m1.1 187 10)).toInt = (m.1 187 10).toInt; omega)⟩
set_option maxHeartbeats 4000000 in
theorem s_X12_count {ad : Nat → Nat} {d : Nat} {m : Wm} {x1 : Int32} (w : WT m) : Ct ad μX12_count d [.ref (ad 187), .int x1] m (fun r m' => WT m' ∧ Fx (RS [20]) m m' ∧ ∃ v : Int32, r = some (.int v)) := by
  have f : Fx (RS [20]) m m := Fx.rf
  refine v_X12_count  ?_
  refine ⟨?_, ?_, ?_, ?_, ?_, ?_, ?_, ?_, ?_, ?_⟩
  · intro c1
    have k2 := y_eqr (n := 0) rfl c1
    have w3 : WT (uI m 187 17 (0 : Int32)) := w.n rfl
    have f3 : Fx (RS [20]) m (uI m 187 17 (0 : Int32)) := f.i rfl
    have r4 := w.at (a := 187) (k := 1) rfl
    exact ⟨w3, f3, _, rfl⟩
  · intro c5
    have k6 := y_eqr (n := 1) rfl c5
    have w7 : WT (uI m 187 17 (0 : Int32)) := w.n rfl
    have f7 : Fx (RS [20]) m (uI m 187 17 (0 : Int32)) := f.i rfl
    have r8 := w.at (a := 187) (k := 0) rfl
    exact ⟨w7, f7, _, rfl⟩
  · intro c9
    have k10 := y_eqr (n := 2) rfl c9
    have w11 : WT (uI m 187 17 (0 : Int32)) := w.n rfl
    have f11 : Fx (RS [20]) m (uI m 187 17 (0 : Int32)) := f.i rfl
    have r12 := w.at (a := 187) (k := 11) rfl
    exact ⟨w11, f11, _, rfl⟩
  · intro c13
    have k14 := y_eqr (n := 3) rfl c13
    have w15 : WT (uI m 187 17 (0 : Int32)) := w.n rfl
    have f15 : Fx (RS [20]) m (uI m 187 17 (0 : Int32)) := f.i rfl
    exact ⟨w15, f15, _, rfl⟩
  · intro c16
    have k17 := y_eqr (n := 4) rfl c16
    have w18 : WT (uI m 187 17 (0 : Int32)) := w.n rfl
    have f18 : Fx (RS [20]) m (uI m 187 17 (0 : Int32)) := f.i rfl
    have r19 := w.at (a := 187) (k := 30) rfl
    exact ⟨w18, f18, _, rfl⟩
  · intro c20
    have k21 := y_eqr (n := 5) rfl c20
    have w22 : WT (uI m 187 17 (0 : Int32)) := w.n rfl
    have f22 : Fx (RS [20]) m (uI m 187 17 (0 : Int32)) := f.i rfl
    have r23 := w.at (a := 187) (k := 52) rfl
    exact ⟨w22, f22, _, rfl⟩
  · intro c24
    have k25 := y_eqr (n := 6) rfl c24
    have w26 : WT (uI m 187 17 (0 : Int32)) := w.n rfl
    have f26 : Fx (RS [20]) m (uI m 187 17 (0 : Int32)) := f.i rfl
    have r27 := w.at (a := 187) (k := 16) rfl
    exact ⟨w26, f26, _, rfl⟩
  · intro c28
    have k29 := y_eqr (n := 7) rfl c28
    have w30 : WT (uI m 187 17 (0 : Int32)) := w.n rfl
    have f30 : Fx (RS [20]) m (uI m 187 17 (0 : Int32)) := f.i rfl
    have r31 := w.at (a := 187) (k := 14) rfl
    exact ⟨w30, f30, _, rfl⟩
  · intro c32
    have k33 := y_eqr (n := 8) rfl c32
    have w34 : WT (uI m 187 17 (0 : Int32)) := w.n rfl
    have f34 : Fx (RS [20]) m (uI m 187 17 (0 : Int32)) := f.i rfl
    have r35 := w.at (a := 187) (k := 10) rfl
    exact ⟨w34, f34, _, rfl⟩
  · intro c36
    have k37 := y_ner (n := 0) rfl c36
    intro c38
    have k39 := y_ner (n := 1) rfl c38
    intro c40
    have k41 := y_ner (n := 2) rfl c40
    intro c42
    have k43 := y_ner (n := 3) rfl c42
    intro c44
    have k45 := y_ner (n := 4) rfl c44
    intro c46
    have k47 := y_ner (n := 5) rfl c46
    intro c48
    have k49 := y_ner (n := 6) rfl c48
    intro c50
    have k51 := y_ner (n := 7) rfl c50
    intro c52
    have k53 := y_ner (n := 8) rfl c52
    have w54 : WT (uI m 187 17 (0 : Int32)) := w.n rfl
    have f54 : Fx (RS [20]) m (uI m 187 17 (0 : Int32)) := f.i rfl
    exact ⟨w54, f54, _, rfl⟩
set_option maxHeartbeats 4000000 in
theorem s_X12_row {ad : Nat → Nat} {d : Nat} {m : Wm} {x1 : Int32} (w : WT m) : Ct ad μX12_row (d + 1) [.ref (ad 187), .int x1] m (fun r m' => WT m' ∧ Fx (RS [20]) m m' ∧ ∃ v : Int64, r = some (.long v)) := by
  have f : Fx (RS [20]) m m := Fx.rf
  refine v_X12_row  ?_
  have w1 : WT (uI m 187 17 (0 : Int32)) := w.n rfl
  have f1 : Fx (RS [20]) m (uI m 187 17 (0 : Int32)) := f.i rfl
  have r2 := w.at (a := 187) (k := 16) rfl
  have t3 := ti_subc (x := (m.1 187 16)) (y := (1 : Int32)) (c := 1) rfl (by omega)
  refine (s_X12_in (x := x1) (lo := (0 : Int32)) (hi := ((m.1 187 16) - (1 : Int32))) w1 rfl rfl).to ?_
  rintro _ m1 ⟨w_m1, g4, v2, rfl, p6, p7, p5⟩
  have f_m1 : Fx (RS [20]) m m1 := f1.tr g4 (RS_sub rfl)
  have p8 : (v2.toInt = 0 ∧ ((x1).toInt < (0 : Int) ∨ (((m.1 187 16) - (1 : Int32))).toInt < (x1).toInt)) ∨ (v2.toInt = 1 ∧ (0 : Int) ≤ (x1).toInt ∧ (x1).toInt ≤ (((m.1 187 16) - (1 : Int32))).toInt) := p5
  clear p5
  have e9 : (m1.1 187 1).toInt = ((m.1 187 1)).toInt := congrArg _ (g4.at (a := 187) (k := 1) (by decide))
  have e10 : (m1.1 187 0).toInt = ((m.1 187 0)).toInt := congrArg _ (g4.at (a := 187) (k := 0) (by decide))
  refine ⟨v2, rfl, ?_⟩
  refine ⟨?_, ?_⟩
  · intro c11
    have k12 := y_eqr (n := 0) rfl c11
    refine (s_X12_lost w_m1).to ?_
    rintro _ m3 ⟨w_m3, g13, v4, rfl⟩
    have f_m3 : Fx (RS [20]) m m3 := f_m1.tr g13 (RS_sub rfl)
    have e14 : (m3.1 187 1).toInt = ((m1.1 187 1)).toInt := congrArg _ (g13.at (a := 187) (k := 1) (by decide))
    have e15 : (m3.1 187 0).toInt = ((m1.1 187 0)).toInt := congrArg _ (g13.at (a := 187) (k := 0) (by decide))
    refine ⟨v4, rfl, ?_⟩
    exact ⟨w_m3, f_m3, _, rfl⟩
  · intro c16
    have k17 := y_ner (n := 0) rfl c16
    refine ⟨?_, ?_⟩
    · exact vpi (by omega) (by omega)
    · exact ⟨w_m1, f_m1, _, rfl⟩
end
section
/-! GREATEST COMMON MEASURE, A HUNDRED'S POWERS, PARTS (model) -/
section GC
variable {ad : Nat → Nat} {m : Wm}
theorem bm64 {z : Int} (h1 : -9223372036854775808 ≤ z) (h2 : z < 9223372036854775808) : z.bmod (2 ^ 64) = z := by
  have e : ((2 ^ 64 : Nat) : Int) = 18446744073709551616 := rfl
  exact Int.bmod_eq_of_le_mul_two (by rw [e]; omega) (by rw [e]; omega)
theorem rem64_toInt (a b : Int64) (hb : b ≠ 0) : (a - a / b * b).toInt = a.toInt.tmod b.toInt := by
  rw [Int64.toInt_sub, Int64.toInt_mul, Int64.toInt_div, Int.bmod_mul_bmod, Int.sub_bmod_bmod, Int.mul_comm, ← Int.tmod_def]
  have h1 := Int64.le_toInt a
  have h2 := Int64.toInt_lt a
  have hb0 : b.toInt ≠ 0 := fun q => hb (Int64.toInt_inj.mp q)
  have h3 : (a.toInt.tmod b.toInt).natAbs ≤ a.toInt.natAbs := by
    rw [Int.natAbs_tmod]
    exact Nat.mod_le _ _
  have h4 : (a.toInt.tmod b.toInt).natAbs < b.toInt.natAbs := by
    rw [Int.natAbs_tmod]
    exact Nat.mod_lt _ (by omega)
  have h5 := Int64.le_toInt b
  have h6 := Int64.toInt_lt b
  refine bm64 ?_ ?_ <;> omega
theorem half_mod {a b : Nat} (h : 0 < b) (hb : b < a) : 2 * (a % b) < a := by
  have h1 := Nat.mod_lt a h
  have h2 := Nat.div_add_mod a b
  have h3 : 1 ≤ a / b := Nat.div_pos (by omega) h
  have h4 : b * 1 ≤ b * (a / b) := Nat.mul_le_mul_left b h3
  omega
theorem cmp0 {y : Int64} : lg_cmp y 0 = 0 ↔ y = 0 := lg_cmp_eq _ _
theorem common_ok : ∀ (k : Nat) {d : Nat} (y0 y2 : Int64), y2.toInt.natAbs < 2 ^ k → Ct ad μX12_common (d + (2 * k + 1)) [.long y0, .long y2] m (fun r m' => m' = m ∧ ∃ w : Int64, r = some (.long w) ∧ (w = 0 → y0 = 0 ∧ y2 = 0)) := by
  intro k
  induction k with
  | zero =>
    intro d y0 y2 h
    have e : y2 = 0 := Int64.toInt_inj.mp (by have : (0 : Int64).toInt = 0 := rfl; omega)
    refine v_X12_common ⟨fun c => absurd (cmp0.mpr e) c, fun _ => ⟨rfl, _, rfl, fun q => ⟨q, e⟩⟩⟩
  | succ k ih =>
    intro d y0 y2 h
    have z0 : (0 : Int64).toInt = 0 := rfl
    refine v_X12_common (d := d + (2 * k + 2)) ⟨fun c => ?_, fun c => ⟨rfl, _, rfl, fun q => ⟨q, cmp0.mp c⟩⟩⟩
    have hy : y2 ≠ 0 := fun q => c (cmp0.mpr q)
    have hy' : y2.toInt ≠ 0 := fun q => hy (Int64.toInt_inj.mp (q.trans z0.symm))
    refine ⟨hy, ?_⟩
    have e1 := rem64_toInt y0 y2 hy
    generalize hr : y0 - y0 / y2 * y2 = r1 at *
    have n1 : r1.toInt.natAbs < y2.toInt.natAbs := by
      rw [e1, Int.natAbs_tmod]
      exact Nat.mod_lt _ (by omega)
    refine Ct.to (Q := fun r m' => m' = m ∧ ∃ w : Int64, r = some (.long w) ∧ (w = 0 → y2 = 0 ∧ r1 = 0)) ?_ ?_
    · refine v_X12_common (d := d + (2 * k + 1)) ⟨fun c1 => ?_, fun c1 => ⟨rfl, _, rfl, fun q => ⟨q, cmp0.mp c1⟩⟩⟩
      have hr0 : r1 ≠ 0 := fun q => c1 (cmp0.mpr q)
      have hr' : r1.toInt ≠ 0 := fun q => hr0 (Int64.toInt_inj.mp (q.trans z0.symm))
      refine ⟨hr0, ?_⟩
      have e2 := rem64_toInt y2 r1 hr0
      refine (ih _ _ ?_).to ?_
      · rw [e2, Int.natAbs_tmod]
        have := half_mod (a := y2.toInt.natAbs) (b := r1.toInt.natAbs) (by omega) n1
        rw [Nat.pow_succ] at h
        omega
      · rintro _ m' ⟨eq, w, rfl, hw⟩
        obtain rfl := eq.symm
        exact ⟨w, rfl, rfl, w, rfl, fun q => absurd (hw q).1 hr0⟩
    · rintro _ m' ⟨eq, w, rfl, hw⟩
      obtain rfl := eq.symm
      exact ⟨w, rfl, rfl, w, rfl, fun q => absurd (hw q).1 hy⟩
theorem s_X12_tellPart {d : Nat} {y1 y3 : Int64} (w : WT m) (h3 : y3 ≠ 0) (i1 : (m.1 187 16).toInt ≤ 14) : Ct ad μX12_tellPart (d + 140) [.ref (ad 187), .long y1, .long y3] m (fun r m' => WT m' ∧ Fx (RS [26]) m m' ∧ r = none ∧ ((m'.1 187 16).toInt = (m.1 187 16).toInt + 2)) := by
  refine v_X12_tellPart (d := d + 139) ?_
  refine (common_ok (d := d + 8) 65 y1 y3 ?_).to ?_
  · have h1 := Int64.le_toInt y3
    have h2 := Int64.toInt_lt y3
    have : (2 : Nat) ^ 65 = 36893488147419103232 := by decide
    omega
  rintro _ m' ⟨eq, v, rfl, hv⟩
  obtain rfl := eq.symm
  have hv0 : v ≠ 0 := fun q => h3 (hv q).2
  refine ⟨v, rfl, hv0, (s_X12_tell w (by omega)).to ?_⟩
  rintro _ m1 ⟨w1, f1, rfl, p1⟩
  refine ⟨rfl, hv0, (s_X12_tell w1 (by omega)).to ?_⟩
  rintro _ m2 ⟨w2, f2, rfl, p2⟩
  exact ⟨rfl, w2, f1.tr f2 (RS_sub rfl), rfl, by omega⟩
def hp (k : Nat) : Int64 := match k with | 0 => 1 | k + 1 => hp k * 100
theorem hp_ne : ∀ k : Fin 7, hp k.val ≠ 0 := by decide +kernel
theorem power100_ok {d n : Nat} (hn : n ≤ 6) : Ct ad μX12_power100 d [.int (nI n)] m (fun r m' => m' = m ∧ r = some (.long (hp n))) := by
  refine v_X12_power100 ?_
  have := down (N := n) (P := fun k => AW ad E0 μX12_power100 d (fun r m' => m' = m ∧ r = some (.long (hp n))) 4 [(0, .int (nI n)), (1, .long (hp k)), (3, .int (nI k))] [] m) ?_ ?_ (Nat.zero_le n)
  · exact this
  · exact g_X12_power100_4 ⟨fun _ => ⟨rfl, rfl⟩, fun h => absurd ((nI_leI (by omega) (by omega)).mpr (Nat.le_refl _)) h⟩
  · intro k hk ih
    refine g_X12_power100_4 ⟨fun h => absurd ((nI_leI (by omega) (by omega)).mp h) (by omega), fun _ => ?_⟩
    rw [nI_1]
    exact ih
theorem s_X12_power100 {d : Nat} {x0 : Int32} (w : WT m) (i1 : (0 : Int) ≤ x0.toInt) (i2 : x0.toInt ≤ (6 : Int)) : Ct ad μX12_power100 d [.int x0] m (fun r m' => WT m' ∧ Fx (RS []) m m' ∧ ∃ v : Int64, r = some (.long v) ∧ v ≠ 0) := by
  obtain ⟨s, hs, rfl⟩ := zn_of i1
  rw [nI_toInt hs] at i2
  refine (power100_ok (by omega)).to ?_
  rintro _ m' ⟨eq, rfl⟩
  obtain rfl := eq.symm
  exact ⟨w, Fx.rf, _, rfl, hp_ne ⟨s, by omega⟩⟩
end GC
end
section
/-! STATES (model): the table always has an empty place; depth and parent -/
section STS
variable {ad : Nat → Nat} {m : Wm}
def czf (f : Nat → Int32) : Nat → Nat
  | 0 => 0
  | n + 1 => czf f n + (if f n = 0 then 0 else 1)
theorem czf_ex {f : Nat → Int32} : ∀ n, czf f n < n → ∃ z, z < n ∧ f z = 0 := by
  intro n
  induction n with
  | zero => intro h; exact absurd h (by omega)
  | succ n ih =>
    intro h
    by_cases hf : f n = 0
    · exact ⟨n, by omega, hf⟩
    · have h2 : czf f n + (if f n = 0 then 0 else 1) < n + 1 := h
      rw [if_neg hf] at h2
      obtain ⟨z, hz, e⟩ := ih (by omega)
      exact ⟨z, by omega, e⟩
theorem czf_upd {f g : Nat → Int32} {p : Nat} (h : ∀ j, j ≠ p → g j = f j) : ∀ n, (p < n → czf g n ≤ czf f n + 1) ∧ (n ≤ p → czf g n = czf f n) := by
  intro n
  induction n with
  | zero => exact ⟨fun q => absurd q (by omega), fun _ => rfl⟩
  | succ n ih =>
    have e1 : czf g (n + 1) = czf g n + (if g n = 0 then 0 else 1) := rfl
    have e2 : czf f (n + 1) = czf f n + (if f n = 0 then 0 else 1) := rfl
    rw [e1, e2]
    by_cases hp : n = p
    · have e3 := ih.2 (by omega)
      refine ⟨fun _ => ?_, fun q => absurd q (by omega)⟩
      rw [e3]
      split <;> split <;> omega
    · rw [h n hp]
      refine ⟨fun q => ?_, fun q => ?_⟩
      · have := ih.1 (by omega)
        omega
      · have := ih.2 (by omega)
        omega
def ST (m : Wm) : Prop := (czf (m.1 210) 8192 : Int) ≤ (m.1 187 43).toInt ∧ (∀ k, k < 8192 → (m.1 210 k).toInt ≤ (m.1 187 43).toInt) ∧ (∀ k : Nat, (k : Int) < (m.1 187 43).toInt → (m.1 207 k).toInt = 0 ∨ ∃ p : Nat, m.1 208 k = nI p ∧ p < k ∧ (m.1 207 k).toInt = (m.1 207 p).toInt + 1)
theorem ST.fx {m m' : Wm} {S : List Nat} (h : ST m) (f : Fx (RS S) m m') (h35 : S.elem 35 = false) : ST m' := by
  have e1 := fx_cell (a := 210) (ρ := 35) f (fun _ => rfl) h35
  have e2 := fx_cell (a := 207) (ρ := 35) f (fun _ => rfl) h35
  have e3 := fx_cell (a := 208) (ρ := 35) f (fun _ => rfl) h35
  have e4 : m'.1 187 43 = m.1 187 43 := f.at (fun q => by unfold RS at q; rw [show rg 187 43 = 35 from rfl, h35] at q; cases q)
  unfold ST
  rw [e1, e2, e3, e4]
  exact h
theorem and8191 {x : Nat} (h : x < 8192) : (nI x + 1) &&& (8191 : Int32) = nI ((x + 1) % 8192) := by
  rw [nI_1]
  apply Int32.toBitVec_inj.mp
  apply BitVec.eq_of_toNat_eq
  show (BitVec.ofNat 32 (x + 1) &&& (8191#32)).toNat = (BitVec.ofNat 32 ((x + 1) % 8192)).toNat
  have e1 : (BitVec.ofNat 32 (x + 1)).toNat = x + 1 := by rw [BitVec.toNat_ofNat]; exact Nat.mod_eq_of_lt (by omega)
  have e2 : (BitVec.ofNat 32 ((x + 1) % 8192)).toNat = (x + 1) % 8192 := by rw [BitVec.toNat_ofNat]; exact Nat.mod_eq_of_lt (by omega)
  rw [BitVec.toNat_and, e1, e2]
  exact Nat.and_two_pow_sub_one_eq_mod (x + 1) 13
theorem hash_in (h : UInt64) : ∃ v : Nat, v < 8192 ∧ ((h >>> ((51 : Int32).toInt64.toUInt64 &&& Int64.toUInt64 63)).toInt64).toInt32 = nI v := by
  have e : ((51 : Int32).toInt64.toUInt64 &&& Int64.toUInt64 63) = 51 := by decide
  rw [e]
  have hs : (h >>> (51 : UInt64)).toNat = h.toNat >>> 51 := by
    rw [UInt64.toNat_shiftRight]
    rfl
  have hb : h.toNat >>> 51 < 8192 := by
    have := UInt64.toNat_lt h
    rw [Nat.shiftRight_eq_div_pow]
    have : (2 : Nat) ^ 51 = 2251799813685248 := by decide
    omega
  refine ⟨(h >>> (51 : UInt64)).toNat, by omega, ?_⟩
  apply Int32.toBitVec_inj.mp
  apply BitVec.eq_of_toNat_eq
  show ((h >>> (51 : UInt64)).toBitVec.signExtend 32).toNat = (BitVec.ofNat 32 (h >>> (51 : UInt64)).toNat).toNat
  rw [BitVec.signExtend_eq_setWidth_of_le _ (by decide), BitVec.toNat_setWidth, BitVec.toNat_ofNat]
  rfl
theorem slot_ok {d : Nat} {y1 y3 : Int64} (w : WT m) (h : (czf (m.1 210) 8192 : Int) ≤ 3000) : Ct ad μX12_slot d [.ref (ad 187), .long y1, .long y3] m (fun r m' => m' = m ∧ ∃ v : Nat, r = some (.int (nI v)) ∧ v < 8192) := by
  obtain ⟨z, hz, e0⟩ := czf_ex 8192 (f := m.1 210) (by omega)
  have L : ∀ n x : Nat, x < 8192 → (z + 8192 - x) % 8192 ≤ n → AW ad E0 μX12_slot d (fun r m' => m' = m ∧ ∃ v : Nat, r = some (.int (nI v)) ∧ v < 8192) 21 [(0, .ref (ad 187)), (1, .long y1), (3, .long y3), (7, .int (nI x))] [] m := by
    intro n
    induction n with
    | zero =>
      intro x hx hm
      have : x = z := by omega
      subst this
      refine g_X12_slot_21 ⟨nat_in hx (by decide), fun _ => ⟨rfl, x, rfl, hx⟩, fun c => absurd (by rw [nI_clamp (by omega)]; exact e0) c⟩
    | succ n ih =>
      intro x hx hm
      refine g_X12_slot_21 ⟨nat_in hx (by decide), fun _ => ⟨rfl, x, rfl, hx⟩, fun c => ?_⟩
      rw [nI_clamp (by omega)] at c ⊢
      have hxz : x ≠ z := fun q => c (by rw [q]; exact e0)
      have t := w.at (a := 210) (k := x) rfl
      have c0 := z_ne c
      have z0 : (0 : Int32).toInt = 0 := rfl
      have z1 : (1 : Int32).toInt = 1 := rfl
      have t1 := ti_subc (x := m.1 210 x) (y := 1) (c := 1) rfl (by omega)
      have step : AW ad E0 μX12_slot d (fun r m' => m' = m ∧ ∃ v : Nat, r = some (.int (nI v)) ∧ v < 8192) 69 [(0, .ref (ad 187)), (1, .long y1), (3, .long y3), (7, .int (nI x))] [] m := by
        refine g_X12_slot_69 ?_
        rw [and8191 hx]
        exact ih _ (Nat.mod_lt _ (by decide)) (by omega)
      refine ⟨nat_in hx (by decide), vpi (by omega) (by omega), fun _ => step, fun _ => ⟨nat_in hx (by decide), vpi (by omega) (by omega), fun _ => ⟨rfl, x, rfl, hx⟩, fun _ => step⟩⟩
  refine v_X12_slot ?_
  obtain ⟨v, hv, e⟩ := hash_in ((y1 * (-7046029254386353131 : Int64)) ^^^ (y3 * (-4417276706812531889 : Int64))).toUInt64
  rw [e]
  exact L 8192 v hv (by omega)
end STS
end
section
section ST2
variable {ad : Nat → Nat} {m : Wm}
theorem czf_zero {f : Nat → Int32} : ∀ n, (∀ k, k < n → f k = 0) → czf f n = 0 := by
  intro n
  induction n with
  | zero => intro _; rfl
  | succ n ih =>
    intro h
    show czf f n + (if f n = 0 then 0 else 1) = 0
    rw [ih (fun k hk => h k (by omega)), h n (by omega)]
    rfl
theorem s_X12_clearStates {d : Nat} (w : WT m) : Ct ad μX12_clearStates (d + 1) [.ref (ad 187)] m (fun r m' => WT m' ∧ Fx (RS [24, 34, 35]) m m' ∧ r = none ∧ ST m' ∧ (m'.1 187 43).toInt = 0) := by
  have z0 : (0 : Int32).toInt = 0 := rfl
  have L2 : ∀ n x (m1 : Wm), x + n = 32 → WT m1 → Fx (RS [24, 34, 35]) m m1 → ST m1 → (m1.1 187 43).toInt = 0 → AW ad E0 μX12_clearStates (d + 1) (fun r m' => WT m' ∧ Fx (RS [24, 34, 35]) m m' ∧ r = none ∧ ST m' ∧ (m'.1 187 43).toInt = 0) 34 [(0, .ref (ad 187)), (1, .int (nI x))] [] m1 := by
    intro n
    induction n with
    | zero =>
      intro x m1 hx w1 f1 s1 e1
      obtain rfl : x = 32 := by omega
      refine g_X12_clearStates_34 ⟨fun _ => (s_X12_lay_204 w1 (by decide) (by decide)).to ?_, fun c => absurd (by decide) c⟩
      rintro _ m2 ⟨w2, f2, rfl⟩
      refine ⟨rfl, w2, f1.tr f2 (RS_sub rfl), rfl, s1.fx f2 rfl, ?_⟩
      rw [f2.at (a := 187) (k := 43) (by decide)]
      exact e1
    | succ n ih =>
      intro x m1 hx w1 f1 s1 e1
      refine g_X12_clearStates_34 ⟨fun c => absurd ((le_l 32 32 rfl (by omega) (by omega)).mp c) (by omega), fun _ => ⟨nat_in (by omega) (by decide), ?_⟩⟩
      rw [nI_1]
      refine ih (x + 1) _ (by omega) (w1.n rfl) (f1.i rfl) ?_ e1
      exact s1.fx (S := [24]) ((Fx.rf (m := m1)).i rfl) rfl
  have L1 : ∀ n x (m1 : Wm), x + n = 8192 → WT m1 → Fx (RS [24, 34, 35]) m m1 → (∀ k, k < x → m1.1 210 k = 0) → AW ad E0 μX12_clearStates (d + 1) (fun r m' => WT m' ∧ Fx (RS [24, 34, 35]) m m' ∧ r = none ∧ ST m' ∧ (m'.1 187 43).toInt = 0) 2 [(0, .ref (ad 187)), (1, .int (nI x))] [] m1 := by
    intro n
    induction n with
    | zero =>
      intro x m1 hx w1 f1 h
      obtain rfl : x = 8192 := by omega
      refine g_X12_clearStates_2 ⟨fun _ => ?_, fun c => absurd (by decide) c⟩
      obtain ⟨sd, es, -, s1, s2, -⟩ := w1.nat (a := 187) (k := 1) rfl (by decide)
      show AW ad E0 μX12_clearStates (d + 1) _ 34 [(0, .ref (ad 187)), (1, .int ((4 : Int32) * (m1.1 187 1)))] [] (uI m1 187 43 0)
      rw [es, l_mul 4 4 rfl]
      refine L2 (32 - 4 * sd) _ _ (by omega) (w1.t rfl (by decide) (by decide)) (f1.i rfl) ⟨?_, fun k hk => ?_, fun k hk => absurd (show (k : Int) < 0 from hk) (by omega)⟩ rfl
      · show ((czf (m1.1 210) 8192 : Nat) : Int) ≤ 0
        rw [czf_zero 8192 h]
        decide
      · show (m1.1 210 k).toInt ≤ 0
        rw [h k hk]
        decide
    | succ n ih =>
      intro x m1 hx w1 f1 h
      refine g_X12_clearStates_2 ⟨fun c => absurd ((le_l 8192 8192 rfl (by omega) (by omega)).mp c) (by omega), fun _ => ⟨nat_in (by omega) (by decide), ?_⟩⟩
      rw [nI_1]
      refine ih (x + 1) _ (by omega) (w1.t rfl (by decide) (by decide)) (f1.i rfl) (fun k hk => ?_)
      show (if 210 = 210 ∧ k = (nI x).toNatClampNeg then (0 : Int32) else m1.1 210 k) = 0
      rw [nI_clamp (by omega)]
      by_cases hkx : k = x
      · rw [if_pos ⟨rfl, hkx⟩]
      · rw [if_neg (fun q => hkx q.2)]
        exact h k (by omega)
  exact v_X12_clearStates (L1 8192 0 m rfl w Fx.rf (fun k hk => absurd hk (by omega)))
def snM (m : Wm) (n v : Nat) (w2 w4 : Int64) (x1 x2 D : Int32) : Wm := uI (uI (uI (uI (uI (uL (uL m 205 n w2) 206 n w4) 208 n x1) 209 n x2) 207 n D) 187 43 (nI (n + 1))) 210 v (nI (n + 1))
theorem sn_facts {n v : Nat} {w2 w4 : Int64} {x1 x2 D : Int32} (w : WT m) (s : ST m) (en : m.1 187 43 = nI n) (hn : n < 3000) (hv : v < 8192) (hz : m.1 210 v = 0) (hx1 : (-1 : Int) ≤ x1.toInt) (hx2 : x1.toInt ≤ 2999) (hD1 : 0 ≤ D.toInt) (hD2 : D.toInt ≤ (n : Int)) (hD : D.toInt = 0 ∨ ∃ p : Nat, x1 = nI p ∧ p < n ∧ D.toInt = (m.1 207 p).toInt + 1) : WT (snM m n v w2 w4 x1 x2 D) ∧ Fx (RS [35]) m (snM m n v w2 w4 x1 x2 D) ∧ ST (snM m n v w2 w4 x1 x2 D) := by
  have t1 : (nI (n + 1)).toInt = (n : Int) + 1 := by rw [nI_toInt (by omega)]; omega
  have t0 : (nI n).toInt = (n : Int) := nI_toInt (by omega)
  obtain ⟨s1, s2, s3⟩ := s
  rw [en, t0] at s1 s2 s3
  refine ⟨?_, ?_, ?_⟩
  · unfold snM
    exact (((((w.l.l.t rfl hx1 hx2).n rfl).t rfl hD1 hD2).t rfl (by omega) (by omega)).t rfl (by omega) (by omega))
  · unfold snM
    exact (((((((Fx.rf (S := RS [35]) (m := m)).l (a := 205) rfl).l (a := 206) rfl).i (a := 208) rfl).i (a := 209) rfl).i (a := 207) rfl).i (a := 187) (k := 43) rfl).i (a := 210) rfl
  · have e43 : (snM m n v w2 w4 x1 x2 D).1 187 43 = nI (n + 1) := rfl
    have e210 : ∀ j, (snM m n v w2 w4 x1 x2 D).1 210 j = if j = v then nI (n + 1) else m.1 210 j := by
      intro j
      show (if 210 = 210 ∧ j = v then nI (n + 1) else m.1 210 j) = _
      by_cases hj : j = v
      · rw [if_pos ⟨rfl, hj⟩, if_pos hj]
      · rw [if_neg (fun q => hj q.2), if_neg hj]
    have e207 : ∀ j, (snM m n v w2 w4 x1 x2 D).1 207 j = if j = n then D else m.1 207 j := by
      intro j
      show (if 207 = 207 ∧ j = n then D else m.1 207 j) = _
      by_cases hj : j = n
      · rw [if_pos ⟨rfl, hj⟩, if_pos hj]
      · rw [if_neg (fun q => hj q.2), if_neg hj]
    have e208 : ∀ j, (snM m n v w2 w4 x1 x2 D).1 208 j = if j = n then x1 else m.1 208 j := by
      intro j
      show (if 208 = 208 ∧ j = n then x1 else m.1 208 j) = _
      by_cases hj : j = n
      · rw [if_pos ⟨rfl, hj⟩, if_pos hj]
      · rw [if_neg (fun q => hj q.2), if_neg hj]
    unfold ST
    rw [e43, t1]
    refine ⟨?_, fun k hk => ?_, fun k hk => ?_⟩
    · have := (czf_upd (f := m.1 210) (g := (snM m n v w2 w4 x1 x2 D).1 210) (p := v) (fun j hj => by rw [e210, if_neg hj]) 8192).1 hv
      omega
    · rw [e210]
      by_cases hj : k = v
      · rw [if_pos hj, t1]; exact Int.le_refl _
      · rw [if_neg hj]
        have := s2 k hk
        omega
    · by_cases hj : k = n
      · rw [e207, if_pos hj, e208, if_pos hj]
        rcases hD with h | ⟨p, h1, h2, h3⟩
        · exact Or.inl h
        · refine Or.inr ⟨p, h1, by omega, ?_⟩
          rw [e207, if_neg (by omega)]
          exact h3
      · rw [e207, if_neg hj, e208, if_neg hj]
        rcases s3 k (by omega) with h | ⟨p, h1, h2, h3⟩
        · exact Or.inl h
        · refine Or.inr ⟨p, h1, h2, ?_⟩
          rw [e207, if_neg (by omega)]
          exact h3
theorem s_X12_stateNow {d : Nat} {x1 x2 : Int32} (w : WT m) (s : ST m) (i1 : x1.toInt = -1 ∨ (0 ≤ x1.toInt ∧ x1.toInt < (m.1 187 43).toInt)) : Ct ad μX12_stateNow (d + 1) [.ref (ad 187), .int x1, .int x2, .int 3000] m (fun r m' => WT m' ∧ Fx (RS [35]) m m' ∧ ST m' ∧ ((m'.1 187 43).toInt = (m.1 187 43).toInt ∨ (m'.1 187 43).toInt = (m.1 187 43).toInt + 1) ∧ (1 ≤ (m'.1 187 43).toInt ∨ (m.1 187 43).toInt = 3000) ∧ ∃ v : Int32, r = some (.int v) ∧ (-1 : Int) ≤ v.toInt ∧ v.toInt ≤ 2999 ∧ (v.toInt = -1 → (m.1 187 43).toInt = 3000) ∧ v.toInt < (m'.1 187 43).toInt) := by
  have z0 : (0 : Int32).toInt = 0 := rfl
  have z1 : (1 : Int32).toInt = 1 := rfl
  have zn1 : (-1 : Int32).toInt = -1 := rfl
  refine v_X12_stateNow ((s_X12_half w (by decide) (by decide)).to ?_)
  rintro _ m1 ⟨w1, f1, w2, rfl⟩
  refine ⟨w2, rfl, (s_X12_half w1 (by decide) (by decide)).to ?_⟩
  rintro _ m3 ⟨w3, f3, w4, rfl⟩
  have f3' : Fx (RS []) m m3 := f1.tr f3 (RS_sub rfl)
  have s3 := s.fx f3' rfl
  have t43 := w3.at (a := 187) (k := 43) rfl
  refine ⟨w4, rfl, (slot_ok w3 (by have := s3.1; omega)).to ?_⟩
  rintro _ m5 ⟨eq, v, rfl, hv⟩
  obtain rfl := eq.symm
  have e43 : m3.1 187 43 = m.1 187 43 := f3'.at (by decide)
  rw [← e43] at i1 ⊢
  obtain ⟨n, en, cn, n1, n2, n3⟩ := w3.nat (a := 187) (k := 43) rfl (by decide)
  refine ⟨nI v, rfl, nat_in hv (by decide), fun hz => ⟨fun h3 => ?_, fun h3 => ?_⟩, fun hz => ⟨nat_in hv (by decide), w3, (Fx.rf (S := RS [35])).tr f3' (RS_sub rfl), s3, Or.inl rfl, ?_⟩⟩
  · have hn : n < 3000 := by
      have h4 := z_ne h3
      have h5 : (3000 : Int32).toInt = 3000 := rfl
      rw [en, nI_toInt n3] at h4
      omega
    have V : vp_in (m3.1 187 43) 3000 := by rw [en]; exact nat_in hn (by decide)
    rw [nI_clamp (by omega)] at hz
    have d1 : x1.toInt ≤ 2999 := by rw [en, nI_toInt n3] at i1; omega
    have fin : ∀ (Q : Option Value → Wm → Prop) (D : Int32) (k : Nat) (b : Int32), k = n → b = nI n → Q (some (.int (nI n))) (snM m3 n v w2 w4 x1 x2 D) → AW ad E0 μX12_stateNow (d + 1) Q 122 [(0, .ref (ad 187)), (8, .int (nI v))] [.int D, .int b, .ref (ad 207)] (uI (uI (uL (uL m3 205 k w2) 206 k w4) 208 k x1) 209 k x2) := by
      intro Q D k b hk hb hq
      rw [hk, hb]
      refine g_X12_stateNow_122 (e2 := 207) ly_207 ⟨nat_in (by omega) (by decide), nat_in hv (by decide), ?_⟩
      rw [nI_clamp (by omega), nI_clamp (by omega)]
      show Q (some (.int (m3.1 187 43 + 1 - 1))) (uI (uI (uI (uI (uI (uL (uL m3 205 n w2) 206 n w4) 208 n x1) 209 n x2) 207 n D) 187 43 (m3.1 187 43 + 1)) 210 v (m3.1 187 43 + 1))
      have eS : nI n + 1 - 1 = nI n := by
        refine (fa_eq _ _).mpr ?_
        rw [nI_1, ti_subc (c := 1) rfl (by rw [nI_toInt (by omega)]; omega), nI_toInt (by omega), nI_toInt (by omega)]
        omega
      rw [en, eS, nI_1]
      exact hq
    have fin2 : ∀ D : Int32, 0 ≤ D.toInt → D.toInt ≤ (n : Int) → (D.toInt = 0 ∨ ∃ p : Nat, x1 = nI p ∧ p < n ∧ D.toInt = (m3.1 207 p).toInt + 1) → WT (snM m3 n v w2 w4 x1 x2 D) ∧ Fx (RS [35]) m (snM m3 n v w2 w4 x1 x2 D) ∧ ST (snM m3 n v w2 w4 x1 x2 D) ∧ (((snM m3 n v w2 w4 x1 x2 D).1 187 43).toInt = (m3.1 187 43).toInt ∨ ((snM m3 n v w2 w4 x1 x2 D).1 187 43).toInt = (m3.1 187 43).toInt + 1) ∧ (1 ≤ ((snM m3 n v w2 w4 x1 x2 D).1 187 43).toInt ∨ (m3.1 187 43).toInt = 3000) ∧ ∃ v' : Int32, some (Value.int (nI n)) = some (.int v') ∧ (-1 : Int) ≤ v'.toInt ∧ v'.toInt ≤ 2999 ∧ (v'.toInt = -1 → (m3.1 187 43).toInt = 3000) ∧ v'.toInt < ((snM m3 n v w2 w4 x1 x2 D).1 187 43).toInt := by
      intro D hD1 hD2 hD
      have F := sn_facts (m := m3) (n := n) (v := v) (w2 := w2) (w4 := w4) (x1 := x1) (x2 := x2) (D := D) w3 s3 en hn hv hz (by omega) d1 hD1 hD2 hD
      have e1 : ((snM m3 n v w2 w4 x1 x2 D).1 187 43).toInt = (n : Int) + 1 := by
        show (nI (n + 1)).toInt = _
        rw [nI_toInt (by omega)]; omega
      have e2 : (nI n).toInt = (n : Int) := nI_toInt (by omega)
      rw [e1, en, e2]
      exact ⟨F.1, ((Fx.rf (S := RS [35])).tr f3' (RS_sub rfl)).tr F.2.1 (RS_sub rfl), F.2.2, Or.inr rfl, Or.inl (by omega), nI n, rfl, by omega, by omega, by omega, by omega⟩
    refine ⟨V, V, V, V, fun hx => ?_, fun hx => ?_⟩
    · have hx' : x1.toInt ≠ -1 := fun q => hx ((fa_eq _ _).mpr (q.trans zn1.symm))
      obtain ⟨p, hp, rfl⟩ := zn_of (x := x1) (by omega)
      rw [nI_toInt hp] at i1 d1
      have hp2 : p < n := by rw [en, nI_toInt n3] at i1; omega
      refine ⟨nat_in (by omega) (by decide), ?_⟩
      have t207 := w3.at (a := 207) (k := p) (lo := 0) (hi := (p : Int)) rfl
      have a1 := ti_addc (x := m3.1 207 p) (y := 1) (c := 1) rfl (by omega)
      refine fin _ _ (m3.1 187 43).toNatClampNeg (m3.1 187 43) cn en ?_
      refine fin2 _ ?_ ?_ (Or.inr ⟨p, rfl, hp2, ?_⟩)
      · show 0 ≤ (m3.1 207 (nI p).toNatClampNeg + 1).toInt
        rw [nI_clamp hp]; omega
      · show (m3.1 207 (nI p).toNatClampNeg + 1).toInt ≤ _
        rw [nI_clamp hp]; omega
      · show (m3.1 207 (nI p).toNatClampNeg + 1).toInt = _
        rw [nI_clamp hp]; exact a1
    · refine fin _ _ (m3.1 187 43).toNatClampNeg (m3.1 187 43) cn en ?_
      exact fin2 0 (by decide) (by rw [z0]; omega) (Or.inl rfl)
  · have h5 : (m3.1 187 43).toInt = 3000 := by rw [h3]; rfl
    exact ⟨w3, (Fx.rf (S := RS [35])).tr f3' (RS_sub rfl), s3, Or.inl rfl, Or.inr h5, -1, rfl, by omega, by omega, fun _ => h5, by omega⟩
  · rw [nI_clamp (by omega)] at hz ⊢
    have t1 := w3.at (a := 210) (k := v) rfl
    have t2 := s3.2.1 v hv
    have t3 := z_ne hz
    have t4 := ti_subc (x := m3.1 210 v) (y := 1) (c := 1) rfl (by omega)
    exact ⟨Or.inl (by omega), _, rfl, by omega, by omega, by omega, by omega⟩
end ST2
end
section
/-! SEARCHES (model): findRest, findStates, tellWay -/
section ST3
variable {ad : Nat → Nat} {m : Wm}
theorem findRest_ok {d : Nat} (w : WT m) : Ct ad μX12_findRest (d + 177) [.ref (ad 187)] m (fun r m' => WT m' ∧ Fx (RS [22, 24, 28, 34, 35, 49]) m m' ∧ ST m' ∧ 1 ≤ (m'.1 187 43).toInt ∧ ∃ v : Int32, r = some (.int v) ∧ (0 : Int) ≤ v.toInt ∧ v.toInt ≤ 1 ∧ (v.toInt = 0 ∨ (1 ≤ (m'.1 187 46).toInt ∧ (m'.1 187 45).toInt + (m'.1 187 46).toInt ≤ 2000))) := by
  have z0 : (0 : Int32).toInt = 0 := rfl
  have z1 : (1 : Int32).toInt = 1 := rfl
  have zn1 : (-1 : Int32).toInt = -1 := rfl
  have L : ∀ n : Nat, ∀ (m1 : Wm) (x1 : Int32) (t : Nat), t + n = 2001 → 1 ≤ t → WT m1 → Fx (RS [22, 24, 28, 34, 35, 49]) m m1 → ST m1 → 1 ≤ (m1.1 187 43).toInt → (m1.1 187 43).toInt ≤ (t : Int) → 0 ≤ x1.toInt → x1.toInt ≤ 1 → (x1.toInt = 0 ∨ (1 ≤ (m1.1 187 46).toInt ∧ (m1.1 187 45).toInt + (m1.1 187 46).toInt ≤ 2000)) →
      AW ad E0 μX12_findRest (d + 177) (fun r m' => WT m' ∧ Fx (RS [22, 24, 28, 34, 35, 49]) m m' ∧ ST m' ∧ 1 ≤ (m'.1 187 43).toInt ∧ ∃ v : Int32, r = some (.int v) ∧ (0 : Int) ≤ v.toInt ∧ v.toInt ≤ 1 ∧ (v.toInt = 0 ∨ (1 ≤ (m'.1 187 46).toInt ∧ (m'.1 187 45).toInt + (m'.1 187 46).toInt ≤ 2000))) 18 [(0, .ref (ad 187)), (1, .int x1), (2, .int (nI t))] [] m1 := by
    intro n
    induction n with
    | zero =>
      intro m1 x1 t ht h1 w1 f1 s1 a1 a2 a3 a4 a5
      refine g_X12_findRest_18 ⟨fun _ => ?_, fun c => absurd ((lt_l 2000 2000 rfl (by omega) (by omega)).mpr (by omega)) c⟩
      refine g_X12_findRest_90 ((s_X12_bring_204 w1 (by decide) (by decide)).to ?_)
      rintro _ m2 ⟨w2, f2, rfl⟩
      have e1 := f2.at (a := 187) (k := 43) (by decide)
      have e2 := f2.at (a := 187) (k := 45) (by decide)
      have e3 := f2.at (a := 187) (k := 46) (by decide)
      exact ⟨rfl, bz_of (by omega) (by omega), w2, f1.tr f2 (RS_sub rfl), s1.fx f2 rfl, by rw [e1]; exact a1, x1, rfl, a3, a4, by rw [e2, e3]; exact a5⟩
    | succ n ih =>
      intro m1 x1 t ht h1 w1 f1 s1 a1 a2 a3 a4 a5
      refine g_X12_findRest_18 ⟨fun c => absurd ((lt_l 2000 2000 rfl (by omega) (by omega)).mp c) (by omega), fun _ => ⟨fun c => ?_, fun c => ?_⟩⟩
      · refine g_X12_findRest_90 ((s_X12_bring_204 w1 (by decide) (by decide)).to ?_)
        rintro _ m2 ⟨w2, f2, rfl⟩
        have e1 := f2.at (a := 187) (k := 43) (by decide)
        have e2 := f2.at (a := 187) (k := 45) (by decide)
        have e3 := f2.at (a := 187) (k := 46) (by decide)
        exact ⟨rfl, bz_of (by omega) (by omega), w2, f1.tr f2 (RS_sub rfl), s1.fx f2 rfl, by rw [e1]; exact a1, x1, rfl, a3, a4, by rw [e2, e3]; exact a5⟩
      · refine (s_X12_goTurn w1).to ?_
        rintro _ m2 ⟨w2, f2, rfl⟩
        have e1 := f2.at (a := 187) (k := 43) (by decide)
        have s2 := s1.fx f2 rfl
        refine ⟨rfl, (s_X12_stateNow w2 s2 (Or.inl zn1)).to ?_⟩
        rintro _ m3 ⟨w3, f3, s3, b1, b2, v, rfl, b3, b4, b5, b6⟩
        rw [e1] at b1 b2 b5
        have hv : v.toInt ≠ -1 := fun q => by have := b5 q; omega
        have f3' : Fx (RS [22, 24, 28, 34, 35, 49]) m m3 := (f1.tr f2 (RS_sub rfl)).tr f3 (RS_sub rfl)
        refine ⟨v, rfl, fun c3 => ?_, fun c3 => ?_⟩
        · refine g_X12_findRest_62 ⟨fun q => absurd rfl q, fun _ => ?_⟩
          rw [nI_1]
          exact ih m3 0 (t + 1) (by omega) (by omega) w3 f3' s3 (by omega) (by omega) (by decide) (by decide) (Or.inl rfl)
        · have c4 : (m3.1 187 43).toInt = (m2.1 187 43).toInt := congrArg _ c3
          rw [e1] at c4
          refine g_X12_findRest_62 ⟨fun _ => ?_, fun q => absurd q (by decide)⟩
          have tt : (nI t).toInt = (t : Int) := nI_toInt (by omega)
          have q1 := ti_sub (x := nI t) (y := v) (by omega)
          rw [nI_1]
          refine ih _ 1 (t + 1) (by omega) (by omega) ((w3.t rfl (by omega) (by omega)).t rfl (by rw [q1]; omega) (by rw [q1]; omega)) ((f3'.i rfl).i rfl) s3 (by show 1 ≤ (m3.1 187 43).toInt; omega) (by show (m3.1 187 43).toInt ≤ _; omega) (by decide) (by decide) (Or.inr ?_)
          show 1 ≤ (nI t - v).toInt ∧ v.toInt + (nI t - v).toInt ≤ 2000
          rw [q1]
          omega
  refine v_X12_findRest ((s_X12_clearStates w).to ?_)
  rintro _ m1 ⟨w1, f1, rfl, s1, e1⟩
  refine ⟨rfl, (s_X12_stateNow w1 s1 (Or.inl zn1)).to ?_⟩
  rintro _ m2 ⟨w2, f2, s2, b1, b2, v, rfl, b3, b4, b5, b6⟩
  refine ⟨v, rfl, ?_⟩
  exact L 2000 m2 0 1 (by decide) (by decide) w2 (((Fx.rf (S := RS [22, 24, 28, 34, 35, 49])).tr f1 (RS_sub rfl)).tr f2 (RS_sub rfl)) s2 (by omega) (by omega) (by decide) (by decide) (Or.inl rfl)
theorem s_X12_findRest {d : Nat} (w : WT m) : Ct ad μX12_findRest (d + 177) [.ref (ad 187)] m (fun r m' => WT m' ∧ Fx (RS [22, 24, 28, 34, 35, 49]) m m' ∧ ∃ v : Int32, r = some (.int v) ∧ (0 : Int) ≤ v.toInt ∧ v.toInt ≤ 1 ∧ (v.toInt = 0 ∨ (1 ≤ (m'.1 187 46).toInt ∧ (m'.1 187 45).toInt + (m'.1 187 46).toInt ≤ 2000))) :=
  (findRest_ok w).to (by rintro _ m' ⟨h1, h2, -, -, h3⟩; exact ⟨h1, h2, h3⟩)
end ST3
section ST4
variable {ad : Nat → Nat} {m : Wm}
def fsQ (m : Wm) (r : Option Value) (m' : Wm) : Prop := WT m' ∧ Fx (RS [22, 24, 28, 34, 35, 49]) m m' ∧ ST m' ∧ 1 ≤ (m'.1 187 43).toInt ∧ ∃ v : Int32, r = some (.int v) ∧ (0 : Int) ≤ v.toInt ∧ v.toInt ≤ 1
def fsI (m m1 : Wm) (x2 x3 : Int32) : Prop := WT m1 ∧ Fx (RS [22, 24, 28, 34, 35, 49]) m m1 ∧ ST m1 ∧ 1 ≤ (m1.1 187 43).toInt ∧ 0 ≤ x2.toInt ∧ x2.toInt ≤ 1 ∧ 0 ≤ x3.toInt
theorem fs_loop {d : Nat} {x1 : Int32} : ∀ n : Nat,
    (∀ (m1 : Wm) (x2 x3 : Int32), fsI m m1 x2 x3 → x3.toInt ≤ 3000 → (3000 - x3.toInt) * 1000 + 900 < (n : Int) → AW ad E0 μX12_findStates (d + 177) (fsQ m) 18 [(0, .ref (ad 187)), (1, .int x1), (2, .int x2), (3, .int x3)] [] m1) ∧
    (∀ (m1 : Wm) (x2 x3 x4 : Int32), fsI m m1 x2 x3 → x3.toInt < (m1.1 187 43).toInt → 0 ≤ x4.toInt → x4.toInt ≤ 3 → (3000 - x3.toInt) * 1000 + (3 - x4.toInt) * 200 + 190 < (n : Int) → AW ad E0 μX12_findStates (d + 177) (fsQ m) 46 [(0, .ref (ad 187)), (1, .int x1), (2, .int x2), (3, .int x3), (4, .int x4)] [] m1) ∧
    (∀ (m1 : Wm) (x2 x3 x4 x5 : Int32), fsI m m1 x2 x3 → x3.toInt < (m1.1 187 43).toInt → 0 ≤ x4.toInt → x4.toInt ≤ 2 → 0 ≤ x5.toInt → x5.toInt ≤ 8 → (3000 - x3.toInt) * 1000 + (3 - x4.toInt) * 200 + (8 - x5.toInt) * 20 + 19 < (n : Int) → AW ad E0 μX12_findStates (d + 177) (fsQ m) 55 [(0, .ref (ad 187)), (1, .int x1), (2, .int x2), (3, .int x3), (4, .int x4), (5, .int x5)] [] m1) ∧
    (∀ (m1 : Wm) (x2 x3 x4 x5 x6 : Int32), fsI m m1 x2 x3 → x3.toInt < (m1.1 187 43).toInt → 0 ≤ x4.toInt → x4.toInt ≤ 2 → 0 ≤ x5.toInt → x5.toInt ≤ 7 → 0 ≤ x6.toInt → x6.toInt ≤ 9 → (3000 - x3.toInt) * 1000 + (3 - x4.toInt) * 200 + (8 - x5.toInt) * 20 + (9 - x6.toInt) < (n : Int) → AW ad E0 μX12_findStates (d + 177) (fsQ m) 70 [(0, .ref (ad 187)), (1, .int x1), (2, .int x2), (3, .int x3), (4, .int x4), (5, .int x5), (6, .int x6)] [] m1) := by
  intro n
  have z0 : (0 : Int32).toInt = 0 := rfl
  have z1 : (1 : Int32).toInt = 1 := rfl
  have zn1 : (-1 : Int32).toInt = -1 := rfl
  induction n with
  | zero =>
    refine ⟨fun m1 x2 x3 I a b => ?_, fun m1 x2 x3 x4 I a b c e => ?_, fun m1 x2 x3 x4 x5 I a b c e f g => ?_, fun m1 x2 x3 x4 x5 x6 I a b c e f g h i => ?_⟩
    all_goals have t43 := I.1.at (a := 187) (k := 43) rfl
    all_goals exfalso
    all_goals omega
  | succ n ih =>
    have fin : ∀ (m1 : Wm) (x2 x3 : Int32), fsI m m1 x2 x3 → AW ad E0 μX12_findStates (d + 177) (fsQ m) 154 [(0, .ref (ad 187)), (2, .int x2)] [] m1 := by
      intro m1 x2 x3 ⟨w1, f1, s1, a1, a2, a3, a4⟩
      refine g_X12_findStates_154 ((s_X12_bring_204 w1 (by decide) (by decide)).to ?_)
      rintro _ m2 ⟨w2, f2, rfl⟩
      have e1 := f2.at (a := 187) (k := 43) (by decide)
      exact ⟨rfl, bz_of (by omega) (by omega), w2, f1.tr f2 (RS_sub rfl), s1.fx f2 rfl, by rw [e1]; exact a1, x2, rfl, a2, a3⟩
    refine ⟨fun m1 x2 x3 I a b => ?_, fun m1 x2 x3 x4 I a b c e => ?_, fun m1 x2 x3 x4 x5 I a b c e f g => ?_, fun m1 x2 x3 x4 x5 x6 I a b c e f g h i => ?_⟩
    · have I' := I
      obtain ⟨w1, f1, s1, a1, a2, a3, a4⟩ := I
      have t43 := w1.at (a := 187) (k := 43) rfl
      refine g_X12_findStates_18 ⟨fun _ => fin _ _ _ I', fun c => ⟨fun _ => fin _ _ _ I', fun _ => ?_⟩⟩
      have c' := z_nle c
      have t1 := ti_addc (x := x3) (y := 1) (c := 1) rfl (by omega)
      refine ⟨vpi (by omega) (by omega), fun _ => ih.2.1 _ _ _ _ I' (by omega) (by decide) (by decide) (by omega), fun _ => ih.1 _ _ _ ⟨w1, f1, s1, a1, a2, a3, by omega⟩ (by omega) (by omega)⟩
    · have I' := I
      obtain ⟨w1, f1, s1, a1, a2, a3, a4⟩ := I
      have t43 := w1.at (a := 187) (k := 43) rfl
      have t1 := ti_addc (x := x3) (y := 1) (c := 1) rfl (by omega)
      refine g_X12_findStates_46 ⟨fun _ => ih.1 _ _ _ ⟨w1, f1, s1, a1, a2, a3, by omega⟩ (by omega) (by omega), fun q => ?_⟩
      have q' := y_nlel (n := 3) rfl q
      exact ih.2.2.1 _ _ _ _ _ I' a b (by omega) (by decide) (by decide) (by omega)
    · have I' := I
      obtain ⟨w1, f1, s1, a1, a2, a3, a4⟩ := I
      have t43 := w1.at (a := 187) (k := 43) rfl
      have t11 := w1.at (a := 187) (k := 1) rfl
      have t1 := ti_addc (x := x4) (y := 1) (c := 1) rfl (by omega)
      have t2 := ti_addc (x := x5) (y := 1) (c := 1) rfl (by omega)
      refine g_X12_findStates_55 ⟨fun _ => ih.2.1 _ _ _ _ I' a (by omega) (by omega) (by omega), fun q => ?_⟩
      have q' := z_nle q
      exact ih.2.2.2 _ _ _ _ _ _ I' a b c e (by omega) (by omega) (by omega) (by omega)
    · have I' := I
      obtain ⟨w1, f1, s1, a1, a2, a3, a4⟩ := I
      have t43 := w1.at (a := 187) (k := 43) rfl
      have t11 := w1.at (a := 187) (k := 1) rfl
      have t2 := ti_addc (x := x5) (y := 1) (c := 1) rfl (by omega)
      have nxt := ih.2.2.1 m1 x2 x3 x4 (x5 + 1) I' a b c (by omega) (by omega) (by omega)
      refine g_X12_findStates_70 ⟨fun _ => nxt, fun q => ⟨fun _ => nxt, fun _ => ?_⟩⟩
      have q' := z_nle q
      have t3 := ti_addc (x := x6) (y := 1) (c := 1) rfl (by omega)
      refine (s_X12_load w1 (by omega) (by omega)).to ?_
      rintro _ m2 ⟨w2, f2, rfl⟩
      refine ⟨rfl, (s_X12_goQuiet w2 (by omega) (by omega) (by omega) (by omega)).to ?_⟩
      rintro _ m3 ⟨w3, f3, rfl⟩
      have f3' := (f1.tr f2 (RS_sub rfl)).tr f3 (RS_sub rfl)
      have s3 := (s1.fx f2 rfl).fx f3 rfl
      have e3 : (m3.1 187 43).toInt = (m1.1 187 43).toInt := congrArg _ ((f3.at (a := 187) (k := 43) (by decide)).trans (f2.at (a := 187) (k := 43) (by decide)))
      refine ⟨rfl, (s_X12_stateNow w3 s3 (Or.inr ⟨by omega, by omega⟩)).to ?_⟩
      rintro _ m4 ⟨w4, f4, s4, b1, b2, v, rfl, -⟩
      have f4' := f3'.tr f4 (RS_sub rfl)
      refine ⟨v, rfl, fun _ => ?_, fun _ => ?_⟩
      · exact ih.2.2.2 _ _ _ _ _ _ ⟨w4, f4', s4, by omega, by decide, by decide, a4⟩ (by omega) b c e f (by omega) (by omega) (by omega)
      · exact ih.2.2.2 _ _ _ _ _ _ ⟨w4, f4', s4, by omega, by decide, by decide, a4⟩ (by omega) b c e f (by omega) (by omega) (by omega)
theorem findStates_ok {d : Nat} {x1 : Int32} (w : WT m) : Ct ad μX12_findStates (d + 177) [.ref (ad 187), .int x1] m (fsQ m) := by
  have z0 : (0 : Int32).toInt = 0 := rfl
  have zn1 : (-1 : Int32).toInt = -1 := rfl
  refine v_X12_findStates ((s_X12_clearStates w).to ?_)
  rintro _ m1 ⟨w1, f1, rfl, s1, e1⟩
  refine ⟨rfl, (s_X12_stateNow w1 s1 (Or.inl zn1)).to ?_⟩
  rintro _ m2 ⟨w2, f2, s2, b1, b2, v, rfl, b3, b4, b5, b6⟩
  refine ⟨v, rfl, ?_⟩
  exact (fs_loop 4000000).1 m2 1 0 ⟨w2, ((Fx.rf (S := RS [22, 24, 28, 34, 35, 49])).tr f1 (RS_sub rfl)).tr f2 (RS_sub rfl), s2, by omega, by decide, by decide, by decide⟩ (by decide) (by rw [z0]; decide)
theorem s_X12_findStates {d : Nat} {x1 : Int32} (w : WT m) : Ct ad μX12_findStates (d + 177) [.ref (ad 187), .int x1] m (fun r m' => WT m' ∧ Fx (RS [22, 24, 28, 34, 35, 49]) m m' ∧ ∃ v : Int32, r = some (.int v) ∧ (0 : Int) ≤ v.toInt ∧ v.toInt ≤ 1 ∧ (1 ≤ (m'.1 187 43).toInt)) :=
  (findStates_ok w).to (by rintro _ m' ⟨h1, h2, -, h3, v, h4, h5, h6⟩; exact ⟨h1, h2, v, h4, h5, h6, h3⟩)
theorem tellWay_ok {d : Nat} {x1 : Int32} (w : WT m) (s : ST m) (i1 : 0 ≤ x1.toInt) (i2 : x1.toInt < (m.1 187 43).toInt) : Ct ad μX12_tellWay (d + 1) [.ref (ad 187), .int x1] m (fun r m' => WT m' ∧ Fx (RS [26, 38]) m m' ∧ ∃ v : Int32, r = some (.int v)) := by
  have z0 : (0 : Int32).toInt = 0 := rfl
  have zn1 : (-1 : Int32).toInt = -1 := rfl
  have L2 : ∀ n : Nat, ∀ (m1 : Wm) (x2 : Int32) (k : Nat), k + n = 10 → WT m1 → Fx (RS [26, 38]) m m1 → (m1.1 187 16).toInt = (k : Int) → AW ad E0 μX12_tellWay (d + 1) (fun r m' => WT m' ∧ Fx (RS [26, 38]) m m' ∧ ∃ v : Int32, r = some (.int v)) 53 [(0, .ref (ad 187)), (2, .int x2), (4, .int (nI k))] [] m1 := by
    intro n
    induction n with
    | zero =>
      intro m1 x2 k hk w1 f1 e1
      exact g_X12_tellWay_53 ⟨fun _ => ⟨w1, f1, _, rfl⟩, fun _ => ⟨fun _ => ⟨w1, f1, _, rfl⟩, fun c => absurd ((le_l 10 10 rfl (by omega) (by omega)).mpr (by omega)) c⟩⟩
    | succ n ih =>
      intro m1 x2 k hk w1 f1 e1
      refine g_X12_tellWay_53 ⟨fun _ => ⟨w1, f1, _, rfl⟩, fun _ => ⟨fun _ => ⟨w1, f1, _, rfl⟩, fun c => ⟨nat_in (by omega) (by decide), (s_X12_tell w1 (by omega)).to ?_⟩⟩⟩
      rintro _ m2 ⟨w2, f2, rfl, p2⟩
      refine ⟨rfl, ?_⟩
      rw [nI_1]
      exact ih m2 x2 (k + 1) (by omega) w2 (f1.tr f2 (RS_sub rfl)) (by omega)
  have L1 : ∀ j : Nat, ∀ (m1 : Wm) (x2 x3 x4 : Int32), x4.toInt = (j : Int) - 1 → j ≤ 3000 → WT m1 → Fx (RS [26, 38]) m m1 → ST m1 → (0 < j → 0 ≤ x3.toInt ∧ x3.toInt < (m1.1 187 43).toInt ∧ (m1.1 207 x3.toNatClampNeg).toInt = (j : Int)) → AW ad E0 μX12_tellWay (d + 1) (fun r m' => WT m' ∧ Fx (RS [26, 38]) m m' ∧ ∃ v : Int32, r = some (.int v)) 14 [(0, .ref (ad 187)), (2, .int x2), (3, .int x3), (4, .int x4)] [] m1 := by
    intro j
    induction j with
    | zero =>
      intro m1 x2 x3 x4 e4 hj w1 f1 s1 h
      refine g_X12_tellWay_14 ⟨fun _ => ?_, fun c => absurd (z_nlt c) (by omega)⟩
      exact L2 10 _ x2 0 (by decide) (w1.t rfl (by decide) (by decide)) (f1.i rfl) rfl
    | succ j ih =>
      intro m1 x2 x3 x4 e4 hj w1 f1 s1 h
      have t43 := w1.at (a := 187) (k := 43) rfl
      obtain ⟨h1, h2, h3⟩ := h (by omega)
      refine g_X12_tellWay_14 ⟨fun c => absurd (z_lt c) (by omega), fun _ => ?_⟩
      refine ⟨vpi (by omega) (by omega), vpi (by omega) (by omega), vpi (by omega) (by omega), ?_⟩
      obtain ⟨k, hk, rfl⟩ := zn_of h1
      rw [nI_clamp hk] at h3 ⊢
      rw [nI_toInt hk] at h1 h2
      have w2 : WT (uI m1 212 x4.toNatClampNeg (m1.1 209 k)) := w1.n rfl
      have s2 : ST (uI m1 212 x4.toNatClampNeg (m1.1 209 k)) := s1.fx (S := [38]) ((Fx.rf (m := m1)).i rfl) rfl
      rcases s1.2.2 k h2 with q | ⟨p, q1, q2, q3⟩
      · omega
      · refine ih _ _ _ _ ?_ (by omega) w2 (f1.i rfl) s2 (fun hj0 => ?_)
        · rw [ti_addc (c := -1) zn1 (by omega)]
          omega
        · show 0 ≤ (m1.1 208 k).toInt ∧ (m1.1 208 k).toInt < (m1.1 187 43).toInt ∧ (m1.1 207 (m1.1 208 k).toNatClampNeg).toInt = _
          rw [q1, nI_clamp (by omega), nI_toInt (by omega)]
          omega
  have t43 := w.at (a := 187) (k := 43) rfl
  refine v_X12_tellWay ⟨vpi (by omega) (by omega), ?_⟩
  obtain ⟨k, hk, rfl⟩ := zn_of i1
  rw [nI_clamp hk]
  rw [nI_toInt hk] at i1 i2
  have t207 := w.at (a := 207) (k := k) (lo := 0) (hi := (k : Int)) rfl
  have t1 := ti_subc (x := m.1 207 k) (y := 1) (c := 1) rfl (by omega)
  refine L1 (m.1 207 k).toInt.toNat m _ _ _ (by omega) (by omega) w Fx.rf s (fun hj => ?_)
  rw [nI_clamp hk, nI_toInt hk]
  omega
end ST4
end
section
/-! CHANCES OF GAMES AHEAD (model): chanceOfWins, hopeOf; a plan of no game has no round -/
section CW
variable {ad : Nat → Nat} {m : Wm}
theorem bm32 {z : Int} (h1 : -2147483648 ≤ z) (h2 : z < 2147483648) : z.bmod (2 ^ 32) = z := by
  have e : ((2 ^ 32 : Nat) : Int) = 4294967296 := rfl
  exact Int.bmod_eq_of_le_mul_two (by rw [e]; omega) (by rw [e]; omega)
theorem nI_rem {g G : Nat} (hg : g < 2147483648) (hG : G < 2147483648) (hG0 : 0 < G) : nI g - nI g / nI G * nI G = nI (g % G) := by
  have hm := Nat.mod_lt g hG0
  refine (fa_eq _ _).mpr ?_
  rw [Int32.toInt_sub, Int32.toInt_mul, Int32.toInt_div, Int.bmod_mul_bmod, Int.sub_bmod_bmod, Int.mul_comm, ← Int.tmod_def, nI_toInt hg, nI_toInt hG, nI_toInt (by omega)]
  have : (g : Int).tmod (G : Int) = ((g % G : Nat) : Int) := by
    rw [Int.tmod_eq_emod_of_nonneg (by omega)]
    rfl
  rw [this]
  exact bm32 (by omega) (by omega)
theorem wide_ne {x : Int32} (h : 1 ≤ x.toInt) : x.toInt64 ≠ 0 := fun q => by
  have h1 : x.toInt64.toInt = 0 := by rw [q]; rfl
  rw [Int32.toInt_toInt64] at h1
  omega
theorem ix_rem (w : WT m) {g : Nat} (hg : g < 7) (hG : 1 ≤ (m.1 187 10).toInt) : m.1 187 10 ≠ 0 ∧ ∃ r : Nat, r ≤ 39 ∧ nI g - nI g / (m.1 187 10) * (m.1 187 10) = nI r ∧ vp_in ((4 : Int32) * nI r) 160 ∧ vp_in ((4 : Int32) * nI r + 1) 160 ∧ vp_in ((4 : Int32) * nI r + 2) 160 ∧ (∀ m' : Wm, WT m' → (0 ≤ (m'.1 194 ((4 : Int32) * nI r).toNatClampNeg).toInt ∧ (m'.1 194 ((4 : Int32) * nI r).toNatClampNeg).toInt ≤ 7) ∧ (0 ≤ (m'.1 194 ((4 : Int32) * nI r + 1).toNatClampNeg).toInt ∧ (m'.1 194 ((4 : Int32) * nI r + 1).toNatClampNeg).toInt ≤ 7)) := by
  have z0 : (0 : Int32).toInt = 0 := rfl
  obtain ⟨G, e, -, G1, G2, G3⟩ := w.nat (a := 187) (k := 10) rfl (by decide)
  rw [e, nI_toInt G3] at hG
  have hr := Nat.mod_lt g (show 0 < G by omega)
  refine ⟨fun q => ?_, g % G, by omega, by rw [e]; exact nI_rem (by omega) G3 (by omega), ?_, ?_, ?_, fun m' w' => ⟨w'.p40 (x := nI (g % G)) ⟨by rw [nI_toInt (by omega)]; omega, by rw [nI_toInt (by omega)]; omega⟩, w'.p41 (x := nI (g % G)) ⟨by rw [nI_toInt (by omega)]; omega, by rw [nI_toInt (by omega)]; omega⟩⟩⟩
  · have := congrArg Int32.toInt (e.symm.trans q)
    rw [nI_toInt G3] at this
    omega
  · rw [l_mul 4 4 rfl]; exact nat_in (by omega) (by decide)
  · rw [l_mul 4 4 rfl, nI_1]; exact nat_in (by omega) (by decide)
  · rw [l_mul 4 4 rfl, add_l 2 2 rfl]; exact nat_in (by omega) (by decide)
def cwQ (m : Wm) (r : Option Value) (m' : Wm) : Prop := WT m' ∧ Fx (RS [22, 24, 28, 36, 37, 49]) m m' ∧ ∃ v : Int64, r = some (.long v)
theorem cow_ok : ∀ (k : Nat) {d : Nat} {m : Wm} {x1 x4 : Int32} {g n : Nat}, WT m → g + k = n → n ≤ 6 → 1 ≤ (m.1 187 10).toInt → Ct ad μX12_chanceOfWins (d + 2 * k + 172) [.ref (ad 187), .int x1, .int (nI g), .int (nI n), .int x4] m (cwQ m) := by
  intro k
  induction k with
  | zero =>
    intro d m x1 x4 g n w hk hn hG
    obtain rfl : g = n := by omega
    exact v_X12_chanceOfWins ⟨fun _ => ⟨w, Fx.rf, _, rfl⟩, fun _ => ⟨fun _ => ⟨fun c => absurd rfl c, fun _ => ⟨w, Fx.rf, _, rfl⟩⟩, fun _ => ⟨w, Fx.rf, _, rfl⟩⟩⟩
  | succ k ih =>
    intro d m x1 x4 g n w hk hn hG
    have cb : ∀ {m : Wm} {x5 : Int32}, WT m → 1 ≤ (m.1 187 10).toInt → Ct ad μX12_chanceBehind (d + 2 * k + 173) [.ref (ad 187), .int x1, .int (nI g), .int (nI n), .int x4, .int x5] m (cwQ m) := by
      intro m x5 w hG
      obtain ⟨hG0, r, hr, er, v0, v1, v2, hp⟩ := ix_rem w (g := g) (by omega) hG
      refine v_X12_chanceBehind (d := d + 2 * k + 172) ?_
      rw [er]
      have l57 : (57 : Int32) * nI g = nI (57 * g) := l_mul 57 57 rfl g
      have t57 : (nI (57 * g)).toInt = ((57 * g : Nat) : Int) := nI_toInt (by omega)
      rw [l57]
      refine ⟨hG0, v0, v1, (s_X12_lay_211 w (by omega) (by omega)).to ?_⟩
      rintro _ m1 ⟨w1, f1, rfl⟩
      refine ⟨rfl, v2, (s_X12_settle w1 (hp m w).1.1 (hp m w).1.2 (hp m w).2.1 (hp m w).2.2).to ?_⟩
      rintro _ m2 ⟨w2, f2, rfl⟩
      have f2' : Fx (RS [22, 24, 28, 36, 37, 49]) m m2 := ((Fx.rf (S := RS [22, 24, 28, 36, 37, 49])).tr f1 (RS_sub rfl)).tr f2 (RS_sub rfl)
      have h10 : (m2.1 187 10).toInt = (m.1 187 10).toInt := congrArg _ (f2'.at (by decide))
      have J109 : ∀ s0 : Int32, AW ad E0 μX12_chanceBehind (d + 2 * k + 173) (cwQ m) 109 [(0, .ref (ad 187)), (2, .int (nI g))] [.int s0, .int x4, .int (nI n), .int (nI g + 1), .int x1, .ref (ad 187)] m2 := by
        intro s0
        refine g_X12_chanceBehind_109 ?_
        rw [nI_1, l57]
        refine (ih w2 (by omega) hn (by omega)).to ?_
        rintro _ m3 ⟨w3, f3, v, rfl⟩
        refine ⟨v, rfl, (s_X12_bring_211 w3 (by omega) (by omega)).to ?_⟩
        rintro _ m4 ⟨w4, f4, rfl⟩
        exact ⟨rfl, w4, (f2'.tr f3 (RS_sub rfl)).tr f4 (RS_sub rfl), v, rfl⟩
      have J89 : ∀ s0 : Int32, AW ad E0 μX12_chanceBehind (d + 2 * k + 173) (cwQ m) 89 [(0, .ref (ad 187)), (1, .int x1), (2, .int (nI g)), (3, .int (nI n)), (4, .int x4)] [.int s0] m2 := fun s0 => g_X12_chanceBehind_89 ⟨fun _ => J109 0, fun _ => J109 1⟩
      have J72 : ∀ x8 : Int32, AW ad E0 μX12_chanceBehind (d + 2 * k + 173) (cwQ m) 72 [(0, .ref (ad 187)), (1, .int x1), (2, .int (nI g)), (3, .int (nI n)), (4, .int x4), (5, .int x5), (8, .int x8)] [] m2 := fun x8 => g_X12_chanceBehind_72 ⟨fun _ => J89 0, fun _ => ⟨fun _ => J89 0, fun _ => J89 1⟩⟩
      exact ⟨rfl, fun _ => J72 _, fun _ => ⟨fun _ => J89 1, fun _ => J72 _⟩⟩
    rw [show d + 2 * (k + 1) + 172 = d + 2 * k + 174 by omega]
    refine v_X12_chanceOfWins (d := d + 2 * k + 173) ⟨fun _ => ⟨w, Fx.rf, _, rfl⟩, fun _ => ⟨fun _ => ⟨fun _ => ?_, fun _ => ⟨w, Fx.rf, _, rfl⟩⟩, fun _ => ⟨w, Fx.rf, _, rfl⟩⟩⟩
    obtain ⟨hG0, r, hr, er, v0, v1, v2, hp⟩ := ix_rem w (g := g) (by omega) hG
    rw [er]
    refine ⟨hG0, v0, v1, v2, fun _ => (s_X12_chanceOf w (hp m w).1.1 (hp m w).1.2 (hp m w).2.1 (hp m w).2.2).to ?_, fun _ => (s_X12_winner w (hp m w).1.1 (hp m w).1.2 (hp m w).2.1 (hp m w).2.2).to ?_⟩
    · rintro _ m1 ⟨w1, f1, v, rfl, b1, b2⟩
      have J : ∀ (m2 : Wm) (y9 z0 : Int64), WT m2 → Fx (RS [22, 24, 28, 36, 37, 49]) m m2 → AW ad E0 μX12_chanceOfWins (d + 2 * k + 174) (cwQ m) 131 [(0, .ref (ad 187)), (1, .int x1), (2, .int (nI g)), (3, .int (nI n)), (4, .int x4), (9, .long y9)] [.long z0] m2 := by
        intro m2 y9 z0 w2 f2
        refine g_X12_chanceOfWins_131 (d := d + 2 * k + 173) ⟨fun _ => ⟨w2, f2, _, rfl⟩, fun _ => (cb w2 (by rw [f2.at (a := 187) (k := 10) (by decide)]; exact hG)).to ?_⟩
        rintro _ m3 ⟨w3, f3, v3, rfl⟩
        exact ⟨v3, rfl, w3, f2.tr f3 (RS_sub rfl), _, rfl⟩
      have f1' : Fx (RS [22, 24, 28, 36, 37, 49]) m m1 := (Fx.rf (S := RS [22, 24, 28, 36, 37, 49])).tr f1 (RS_sub rfl)
      refine ⟨v, rfl, fun _ => J m1 _ _ w1 f1', fun _ => (cb w1 (by rw [f1.at (a := 187) (k := 10) (by decide)]; exact hG)).to ?_⟩
      rintro _ m3 ⟨w3, f3, v3, rfl⟩
      exact ⟨v3, rfl, J m3 _ _ w3 (f1'.tr f3 (RS_sub rfl))⟩
    · rintro _ m1 ⟨w1, f1, v, rfl, b1, b2⟩
      refine ⟨v, rfl, (cb w1 (by rw [f1.at (a := 187) (k := 10) (by decide)]; exact hG)).to ?_⟩
      rintro _ m3 ⟨w3, f3, v3, rfl⟩
      exact ⟨v3, rfl, w3, ((Fx.rf (S := RS [22, 24, 28, 36, 37, 49])).tr f1 (RS_sub rfl)).tr f3 (RS_sub rfl), _, rfl⟩
theorem hop_ok : ∀ (k : Nat) {d : Nat} {m : Wm} {g n : Nat}, WT m → g + k = n → n ≤ 6 → 1 ≤ (m.1 187 10).toInt → Ct ad μX12_hopeOf (d + 2 * k + 172) [.ref (ad 187), .int (nI g), .int (nI n)] m (cwQ m) := by
  intro k
  induction k with
  | zero =>
    intro d m g n w hk hn hG
    obtain rfl : g = n := by omega
    refine v_X12_hopeOf ⟨fun c => absurd rfl c, fun _ => (s_X12_sumOfAll w).to ?_⟩
    rintro _ m1 ⟨w1, f1, v, rfl⟩
    exact ⟨v, rfl, (w1.n rfl).n rfl, (((Fx.rf (S := RS [22, 24, 28, 36, 37, 49])).tr f1 (RS_sub rfl)).i rfl).i rfl, _, rfl⟩
  | succ k ih =>
    intro d m g n w hk hn hG
    have hgn : nI g ≠ nI n := fun q => by
      have := congrArg Int32.toInt q
      rw [nI_toInt (by omega), nI_toInt (by omega)] at this
      omega
    have cb : ∀ {m : Wm} {x5 : Int32}, WT m → 1 ≤ (m.1 187 10).toInt → Ct ad μX12_hopeBehind (d + 2 * k + 173) [.ref (ad 187), .int (nI g), .int (nI n), .int x5] m (cwQ m) := by
      intro m x5 w hG
      obtain ⟨hG0, r, hr, er, v0, v1, v2, hp⟩ := ix_rem w (g := g) (by omega) hG
      refine v_X12_hopeBehind (d := d + 2 * k + 172) ?_
      rw [er]
      have l57 : (57 : Int32) * nI g = nI (57 * g) := l_mul 57 57 rfl g
      have t57 : (nI (57 * g)).toInt = ((57 * g : Nat) : Int) := nI_toInt (by omega)
      rw [l57, nI_1]
      refine ⟨hG0, (s_X12_lay_211 w (by omega) (by omega)).to ?_⟩
      rintro _ m1 ⟨w1, f1, rfl⟩
      refine ⟨rfl, v0, v1, v2, (s_X12_settle w1 (hp m1 w1).1.1 (hp m1 w1).1.2 (hp m1 w1).2.1 (hp m1 w1).2.2).to ?_⟩
      rintro _ m2 ⟨w2, f2, rfl⟩
      have f2' : Fx (RS [22, 24, 28, 36, 37, 49]) m m2 := ((Fx.rf (S := RS [22, 24, 28, 36, 37, 49])).tr f1 (RS_sub rfl)).tr f2 (RS_sub rfl)
      have h10 : (m2.1 187 10).toInt = (m.1 187 10).toInt := congrArg _ (f2'.at (by decide))
      refine ⟨rfl, (ih w2 (by omega) hn (by omega)).to ?_⟩
      rintro _ m3 ⟨w3, f3, v, rfl⟩
      refine ⟨v, rfl, (s_X12_bring_211 w3 (by omega) (by omega)).to ?_⟩
      rintro _ m4 ⟨w4, f4, rfl⟩
      exact ⟨rfl, w4, (f2'.tr f3 (RS_sub rfl)).tr f4 (RS_sub rfl), v, rfl⟩
    rw [show d + 2 * (k + 1) + 172 = d + 2 * k + 174 by omega]
    refine v_X12_hopeOf (d := d + 2 * k + 173) ⟨fun _ => ?_, fun c => absurd c hgn⟩
    obtain ⟨hG0, r, hr, er, v0, v1, v2, hp⟩ := ix_rem w (g := g) (by omega) hG
    rw [er]
    refine ⟨hG0, v2, fun _ => ⟨v0, v1, (s_X12_chanceOf w (hp m w).1.1 (hp m w).1.2 (hp m w).2.1 (hp m w).2.2).to ?_⟩, fun _ => ⟨v0, v1, (s_X12_winner w (hp m w).1.1 (hp m w).1.2 (hp m w).2.1 (hp m w).2.2).to ?_⟩⟩
    · rintro _ m1 ⟨w1, f1, v, rfl, b1, b2⟩
      have J : ∀ (m2 : Wm) (y9 z0 : Int64), WT m2 → Fx (RS [22, 24, 28, 36, 37, 49]) m m2 → AW ad E0 μX12_hopeOf (d + 2 * k + 174) (cwQ m) 134 [(0, .ref (ad 187)), (1, .int (nI g)), (2, .int (nI n)), (5, .long y9)] [.long z0] m2 := by
        intro m2 y9 z0 w2 f2
        refine g_X12_hopeOf_134 (d := d + 2 * k + 173) ⟨fun _ => ⟨w2, f2, _, rfl⟩, fun _ => (cb w2 (by rw [f2.at (a := 187) (k := 10) (by decide)]; exact hG)).to ?_⟩
        rintro _ m3 ⟨w3, f3, v3, rfl⟩
        exact ⟨v3, rfl, w3, f2.tr f3 (RS_sub rfl), _, rfl⟩
      have f1' : Fx (RS [22, 24, 28, 36, 37, 49]) m m1 := (Fx.rf (S := RS [22, 24, 28, 36, 37, 49])).tr f1 (RS_sub rfl)
      refine ⟨v, rfl, fun _ => J m1 _ _ w1 f1', fun _ => (cb w1 (by rw [f1.at (a := 187) (k := 10) (by decide)]; exact hG)).to ?_⟩
      rintro _ m3 ⟨w3, f3, v3, rfl⟩
      exact ⟨v3, rfl, J m3 _ _ w3 (f1'.tr f3 (RS_sub rfl))⟩
    · rintro _ m1 ⟨w1, f1, v, rfl, b1, b2⟩
      refine ⟨v, rfl, (cb w1 (by rw [f1.at (a := 187) (k := 10) (by decide)]; exact hG)).to ?_⟩
      rintro _ m3 ⟨w3, f3, v3, rfl⟩
      exact ⟨v3, rfl, w3, ((Fx.rf (S := RS [22, 24, 28, 36, 37, 49])).tr f1 (RS_sub rfl)).tr f3 (RS_sub rfl), _, rfl⟩
theorem s_X12_chanceOfWins {d : Nat} {x1 x3 x4 : Int32} (w : WT m) (i1 : 0 ≤ x3.toInt) (i2 : x3.toInt ≤ 6) (i3 : 1 ≤ (m.1 187 10).toInt) : Ct ad μX12_chanceOfWins (d + 190) [.ref (ad 187), .int x1, .int 0, .int x3, .int x4] m (fun r m' => WT m' ∧ Fx (RS [22, 24, 28, 36, 37, 49]) m m' ∧ ∃ v : Int64, r = some (.long v)) := by
  obtain ⟨n, hn, rfl⟩ := zn_of i1
  rw [nI_toInt hn] at i2
  have h := cow_ok (ad := ad) n (d := d + 18 - 2 * n) (x1 := x1) (x4 := x4) (g := 0) (n := n) w (by omega) (by omega) i3
  rw [show d + 18 - 2 * n + 2 * n + 172 = d + 190 by omega] at h
  exact h
theorem s_X12_hopeOf {d : Nat} {x2 : Int32} (w : WT m) (i1 : 0 ≤ x2.toInt) (i2 : x2.toInt ≤ 6) (i3 : 1 ≤ (m.1 187 10).toInt) : Ct ad μX12_hopeOf (d + 190) [.ref (ad 187), .int 0, .int x2] m (fun r m' => WT m' ∧ Fx (RS [22, 24, 28, 36, 37, 49]) m m' ∧ ∃ v : Int64, r = some (.long v)) := by
  obtain ⟨n, hn, rfl⟩ := zn_of i1
  rw [nI_toInt hn] at i2
  have h := hop_ok (ad := ad) n (d := d + 18 - 2 * n) (g := 0) (n := n) w (by omega) (by omega) i3
  rw [show d + 18 - 2 * n + 2 * n + 172 = d + 190 by omega] at h
  exact h
end CW
end
section
/-! SAFETY OF THE MODEL, BY PROGRAM (rest .. all) -/
set_option maxHeartbeats 4000000 in
theorem s_X12_rest {ad : Nat → Nat} {d : Nat} {m : Wm} (w : WT m) : Ct ad μX12_rest (d + 178) [.ref (ad 187)] m (fun r m' => WT m' ∧ Fx (RS [20, 22, 24, 26, 28, 34, 35, 49]) m m' ∧ ∃ v : Int32, r = some (.int v)) := by
  have f : Fx (RS [20, 22, 24, 26, 28, 34, 35, 49]) m m := Fx.rf
  refine v_X12_rest  ?_
  refine ⟨?_, ?_⟩
  · intro c1
    have r2 := w.at (a := 187) (k := 11) rfl
    have c3 : ¬ (m.1 187 11) = (0 : Int32) := c1
    have k4 := y_ner (n := 0) rfl c3
    have w5 : WT (uI m 187 17 (0 : Int32)) := w.n rfl
    have f5 : Fx (RS [20, 22, 24, 26, 28, 34, 35, 49]) m (uI m 187 17 (0 : Int32)) := f.i rfl
    refine (s_X12_findRest w5).to ?_
    rintro _ m1 ⟨w_m1, g6, v2, rfl, p8, p9, p7⟩
    have f_m1 : Fx (RS [20, 22, 24, 26, 28, 34, 35, 49]) m m1 := f5.tr g6 (RS_sub rfl)
    have p10 : v2.toInt = 0 ∨ (1 ≤ (m1.1 187 46).toInt ∧ (m1.1 187 45).toInt + (m1.1 187 46).toInt ≤ 2000) := p7
    clear p7
    have e11 : (m1.1 187 16).toInt = ((m.1 187 16)).toInt := congrArg _ (g6.at (a := 187) (k := 16) (by decide))
    have e12 : (m1.1 187 1).toInt = ((m.1 187 1)).toInt := congrArg _ (g6.at (a := 187) (k := 1) (by decide))
    have e13 : (m1.1 187 0).toInt = ((m.1 187 0)).toInt := congrArg _ (g6.at (a := 187) (k := 0) (by decide))
    refine ⟨v2, rfl, ?_⟩
    refine ⟨?_, ?_⟩
    · intro c14
      have k15 := y_ner (n := 0) rfl c14
      have r16 := w_m1.at (a := 187) (k := 45) rfl
      refine (s_X12_load w_m1 (by show (0 : Int) ≤ ((m1.1 187 45)).toInt; omega) (by show ((m1.1 187 45)).toInt ≤ (2999 : Int); omega)).to ?_
      rintro _ m3 ⟨w_m3, g17, rfl⟩
      have f_m3 : Fx (RS [20, 22, 24, 26, 28, 34, 35, 49]) m m3 := f_m1.tr g17 (RS_sub rfl)
      have e18 : (m3.1 187 16).toInt = ((m1.1 187 16)).toInt := congrArg _ (g17.at (a := 187) (k := 16) (by decide))
      have e19 : (m3.1 187 1).toInt = ((m1.1 187 1)).toInt := congrArg _ (g17.at (a := 187) (k := 1) (by decide))
      have e20 : (m3.1 187 0).toInt = ((m1.1 187 0)).toInt := congrArg _ (g17.at (a := 187) (k := 0) (by decide))
      refine ⟨rfl, ?_⟩
      refine (s_X12_sumOfAll w_m3).to ?_
      rintro _ m4 ⟨w_m4, g21, v5, rfl⟩
      have f_m4 : Fx (RS [20, 22, 24, 26, 28, 34, 35, 49]) m m4 := f_m3.tr g21 (RS_sub rfl)
      have e22 : (m4.1 187 16).toInt = ((m3.1 187 16)).toInt := congrArg _ (g21.at (a := 187) (k := 16) (by decide))
      have e23 : (m4.1 187 1).toInt = ((m3.1 187 1)).toInt := congrArg _ (g21.at (a := 187) (k := 1) (by decide))
      have e24 : (m4.1 187 0).toInt = ((m3.1 187 0)).toInt := congrArg _ (g21.at (a := 187) (k := 0) (by decide))
      refine ⟨v5, rfl, ?_⟩
      refine (s_X12_bring_204 w_m4 (by show (0 : Int) ≤ (0 : Int); omega) (by show (0 : Int) ≤ (0 : Int); omega)).to ?_
      rintro _ m6 ⟨w_m6, g25, rfl⟩
      have f_m6 : Fx (RS [20, 22, 24, 26, 28, 34, 35, 49]) m m6 := f_m4.tr g25 (RS_sub rfl)
      have e26 : (m6.1 187 16).toInt = ((m4.1 187 16)).toInt := congrArg _ (g25.at (a := 187) (k := 16) (by decide))
      have e27 : (m6.1 187 1).toInt = ((m4.1 187 1)).toInt := congrArg _ (g25.at (a := 187) (k := 1) (by decide))
      have e28 : (m6.1 187 0).toInt = ((m4.1 187 0)).toInt := congrArg _ (g25.at (a := 187) (k := 0) (by decide))
      refine ⟨rfl, ?_⟩
      have w29 : WT (uI m6 187 16 (0 : Int32)) := w_m6.t rfl (by show (0 : Int) ≤ (0 : Int); omega) (by show (0 : Int) ≤ 16; omega)
      have f29 : Fx (RS [20, 22, 24, 26, 28, 34, 35, 49]) m (uI m6 187 16 (0 : Int32)) := f_m6.i rfl
      refine (s_X12_tell w29 (by show (0 : Int) ≤ 15; omega)).to ?_
      rintro _ m7 ⟨w_m7, g30, rfl, p31⟩
      have f_m7 : Fx (RS [20, 22, 24, 26, 28, 34, 35, 49]) m m7 := f29.tr g30 (RS_sub rfl)
      have p32 : (m7.1 187 16).toInt = (0 : Int) + 1 := p31
      clear p31
      have e33 : (m7.1 187 1).toInt = ((m6.1 187 1)).toInt := congrArg _ (g30.at (a := 187) (k := 1) (by decide))
      have e34 : (m7.1 187 0).toInt = ((m6.1 187 0)).toInt := congrArg _ (g30.at (a := 187) (k := 0) (by decide))
      refine ⟨rfl, ?_⟩
      have r35 := w_m7.at (a := 187) (k := 16) rfl
      refine (s_X12_tell w_m7 (by show ((m7.1 187 16)).toInt ≤ 15; omega)).to ?_
      rintro _ m8 ⟨w_m8, g36, rfl, p37⟩
      have f_m8 : Fx (RS [20, 22, 24, 26, 28, 34, 35, 49]) m m8 := f_m7.tr g36 (RS_sub rfl)
      have p38 : (m8.1 187 16).toInt = ((m7.1 187 16)).toInt + 1 := p37
      clear p37
      have e39 : (m8.1 187 1).toInt = ((m7.1 187 1)).toInt := congrArg _ (g36.at (a := 187) (k := 1) (by decide))
      have e40 : (m8.1 187 0).toInt = ((m7.1 187 0)).toInt := congrArg _ (g36.at (a := 187) (k := 0) (by decide))
      refine ⟨rfl, ?_⟩
      have r41 := w_m8.at (a := 187) (k := 45) rfl
      exact ⟨w_m8, f_m8, _, rfl⟩
    · intro c42
      have k43 := y_eqr (n := 0) rfl c42
      exact ⟨w_m1, f_m1, _, rfl⟩
  · intro c44
    have r45 := w.at (a := 187) (k := 11) rfl
    have c46 : (m.1 187 11) = (0 : Int32) := c44
    have k47 := y_eqr (n := 0) rfl c46
    have w48 : WT (uI m 187 17 (0 : Int32)) := w.n rfl
    have f48 : Fx (RS [20, 22, 24, 26, 28, 34, 35, 49]) m (uI m 187 17 (0 : Int32)) := f.i rfl
    exact ⟨w48, f48, _, rfl⟩
set_option maxHeartbeats 4000000 in
theorem l_X12_mean {ad : Nat → Nat} {d : Nat} {m0 : Wm}  : ∀ n : Nat, (∀ (m : Wm) (x1 x2 x5 : Int32) (y3 : Int64), WT m → Fx (RS [20, 22, 24, 26, 28, 34, 35, 49]) m0 m → (0 : Int) ≤ x1.toInt → x1.toInt ≤ (7 : Int) → (0 : Int) ≤ x2.toInt → x2.toInt ≤ (3 : Int) → (0 : Int) ≤ x5.toInt → x5.toInt ≤ (2000 : Int) → (1 ≤ (m.1 187 46).toInt) → ((m.1 187 45).toInt + (m.1 187 46).toInt ≤ 2000) → 2001 - x5.toInt < (n : Int) → AW ad E0 μX12_mean (d + 178) (fun r m' => WT m' ∧ Fx (RS [20, 22, 24, 26, 28, 34, 35, 49]) m0 m' ∧ ∃ v : Int32, r = some (.int v)) 48 [(0, .ref (ad 187)), (1, .int x1), (2, .int x2), (3, .long y3), (5, .int x5)] [] m) := by
  intro n
  induction n with
  | zero =>
    intros
    exfalso
    omega
  | succ n ih =>
    intro m x1 x2 x5 y3 w f j1 j2 j3 j4 j5 j6 j7 j8 hn
    refine g_X12_mean_48  ?_
    refine ⟨?_, ?_⟩
    · intro c1
      have r2 := w.at (a := 187) (k := 45) rfl
      have r3 := w.at (a := 187) (k := 46) rfl
      have t4 := ti_add (x := (m.1 187 45)) (y := (m.1 187 46)) (by omega)
      have k5 := z_le c1
      have w6 : WT (uI m 187 16 (0 : Int32)) := w.t rfl (by show (0 : Int) ≤ (0 : Int); omega) (by show (0 : Int) ≤ 16; omega)
      have f6 : Fx (RS [20, 22, 24, 26, 28, 34, 35, 49]) m0 (uI m 187 16 (0 : Int32)) := f.i rfl
      refine (s_X12_tellPart w6 (wide_ne (by show 1 ≤ ((m.1 187 46)).toInt; omega)) (by show (0 : Int) ≤ 14; omega)).to ?_
      rintro _ m1 ⟨w_m1, g7, rfl, p8⟩
      have f_m1 : Fx (RS [20, 22, 24, 26, 28, 34, 35, 49]) m0 m1 := f6.tr g7 (RS_sub rfl)
      have p9 : (m1.1 187 16).toInt = (0 : Int) + 2 := p8
      clear p8
      have e10 : (m1.1 187 45).toInt = ((m.1 187 45)).toInt := congrArg _ (g7.at (a := 187) (k := 45) (by decide))
      have e11 : (m1.1 187 46).toInt = ((m.1 187 46)).toInt := congrArg _ (g7.at (a := 187) (k := 46) (by decide))
      have e12 : (m1.1 187 1).toInt = ((m.1 187 1)).toInt := congrArg _ (g7.at (a := 187) (k := 1) (by decide))
      have e13 : (m1.1 187 0).toInt = ((m.1 187 0)).toInt := congrArg _ (g7.at (a := 187) (k := 0) (by decide))
      refine ⟨rfl, ?_⟩
      exact ⟨w_m1, f_m1, _, rfl⟩
    · intro c14
      have r15 := w.at (a := 187) (k := 45) rfl
      have r16 := w.at (a := 187) (k := 46) rfl
      have t17 := ti_add (x := (m.1 187 45)) (y := (m.1 187 46)) (by omega)
      have k18 := z_nle c14
      refine (s_X12_skillIn w (by show (0 : Int) ≤ (x5).toInt; omega) (by show (x5).toInt ≤ (2999 : Int); omega) (by show (0 : Int) ≤ (x1).toInt; omega) (by show (x1).toInt ≤ (7 : Int); omega) (by show (0 : Int) ≤ (x2).toInt; omega) (by show (x2).toInt ≤ (3 : Int); omega)).to ?_
      rintro _ m2 ⟨w_m2, g19, v3, rfl⟩
      have f_m2 : Fx (RS [20, 22, 24, 26, 28, 34, 35, 49]) m0 m2 := f.tr g19 (RS_sub rfl)
      have e20 : (m2.1 187 16).toInt = ((m.1 187 16)).toInt := congrArg _ (g19.at (a := 187) (k := 16) (by decide))
      have e21 : (m2.1 187 45).toInt = ((m.1 187 45)).toInt := congrArg _ (g19.at (a := 187) (k := 45) (by decide))
      have e22 : (m2.1 187 46).toInt = ((m.1 187 46)).toInt := congrArg _ (g19.at (a := 187) (k := 46) (by decide))
      have e23 : (m2.1 187 1).toInt = ((m.1 187 1)).toInt := congrArg _ (g19.at (a := 187) (k := 1) (by decide))
      have e24 : (m2.1 187 0).toInt = ((m.1 187 0)).toInt := congrArg _ (g19.at (a := 187) (k := 0) (by decide))
      refine ⟨v3, rfl, ?_⟩
      have t25 := ti_addc (x := x5) (y := (1 : Int32)) (c := 1) rfl (by omega)
      have r26 := w_m2.at (a := 187) (k := 46) rfl
      have r27 := w_m2.at (a := 187) (k := 45) rfl
      exact ih _ _ _ _ _ w_m2 f_m2 (by show (0 : Int) ≤ (x1).toInt; omega) (by show (x1).toInt ≤ (7 : Int); omega) (by show (0 : Int) ≤ (x2).toInt; omega) (by show (x2).toInt ≤ (3 : Int); omega) (by show (0 : Int) ≤ ((x5 + (1 : Int32))).toInt; omega) (by show ((x5 + (1 : Int32))).toInt ≤ (2000 : Int); omega) (by show 1 ≤ ((m2.1 187 46)).toInt; omega) (by show ((m2.1 187 45)).toInt + ((m2.1 187 46)).toInt ≤ 2000; omega) (by show 2001 - ((x5 + (1 : Int32))).toInt < _; omega)
set_option maxHeartbeats 4000000 in
theorem s_X12_mean {ad : Nat → Nat} {d : Nat} {m : Wm} {x1 x2 : Int32} (w : WT m) : Ct ad μX12_mean (d + 178) [.ref (ad 187), .int x1, .int x2] m (fun r m' => WT m' ∧ Fx (RS [20, 22, 24, 26, 28, 34, 35, 49]) m m' ∧ ∃ v : Int32, r = some (.int v)) := by
  have f : Fx (RS [20, 22, 24, 26, 28, 34, 35, 49]) m m := Fx.rf
  refine v_X12_mean  ?_
  have w1 : WT (uI m 187 17 (0 : Int32)) := w.n rfl
  have f1 : Fx (RS [20, 22, 24, 26, 28, 34, 35, 49]) m (uI m 187 17 (0 : Int32)) := f.i rfl
  refine (s_X12_isSide w1).to ?_
  rintro _ m1 ⟨w_m1, g2, v2, rfl, p4, p5, p3⟩
  have f_m1 : Fx (RS [20, 22, 24, 26, 28, 34, 35, 49]) m m1 := f1.tr g2 (RS_sub rfl)
  have p6 : (v2.toInt = 0 ∧ ((x1).toInt < 0 ∨ ((m.1 187 1)).toInt ≤ (x1).toInt)) ∨ (v2.toInt = 1 ∧ 0 ≤ (x1).toInt ∧ (x1).toInt < ((m.1 187 1)).toInt) := p3
  clear p3
  have e7 : (m1.1 187 16).toInt = ((m.1 187 16)).toInt := congrArg _ (g2.at (a := 187) (k := 16) (by decide))
  have e8 : (m1.1 187 45).toInt = ((m.1 187 45)).toInt := congrArg _ (g2.at (a := 187) (k := 45) (by decide))
  have e9 : (m1.1 187 46).toInt = ((m.1 187 46)).toInt := congrArg _ (g2.at (a := 187) (k := 46) (by decide))
  have e10 : (m1.1 187 1).toInt = ((m.1 187 1)).toInt := congrArg _ (g2.at (a := 187) (k := 1) (by decide))
  have e11 : (m1.1 187 0).toInt = ((m.1 187 0)).toInt := congrArg _ (g2.at (a := 187) (k := 0) (by decide))
  refine ⟨v2, rfl, ?_⟩
  refine ⟨?_, ?_⟩
  · intro c12
    have k13 := y_eqr (n := 0) rfl c12
    exact ⟨w_m1, f_m1, _, rfl⟩
  · intro c14
    have k15 := y_ner (n := 0) rfl c14
    have r16 := w.at (a := 187) (k := 1) rfl
    refine (s_X12_isArt w_m1).to ?_
    rintro _ m3 ⟨w_m3, g17, v4, rfl, p19, p20, p18⟩
    have f_m3 : Fx (RS [20, 22, 24, 26, 28, 34, 35, 49]) m m3 := f_m1.tr g17 (RS_sub rfl)
    have p21 : (v4.toInt = 0 ∧ ((x2).toInt < 0 ∨ ((m1.1 187 0)).toInt ≤ (x2).toInt)) ∨ (v4.toInt = 1 ∧ 0 ≤ (x2).toInt ∧ (x2).toInt < ((m1.1 187 0)).toInt) := p18
    clear p18
    have e22 : (m3.1 187 16).toInt = ((m1.1 187 16)).toInt := congrArg _ (g17.at (a := 187) (k := 16) (by decide))
    have e23 : (m3.1 187 45).toInt = ((m1.1 187 45)).toInt := congrArg _ (g17.at (a := 187) (k := 45) (by decide))
    have e24 : (m3.1 187 46).toInt = ((m1.1 187 46)).toInt := congrArg _ (g17.at (a := 187) (k := 46) (by decide))
    have e25 : (m3.1 187 1).toInt = ((m1.1 187 1)).toInt := congrArg _ (g17.at (a := 187) (k := 1) (by decide))
    have e26 : (m3.1 187 0).toInt = ((m1.1 187 0)).toInt := congrArg _ (g17.at (a := 187) (k := 0) (by decide))
    refine ⟨v4, rfl, ?_⟩
    refine ⟨?_, ?_⟩
    · intro c27
      have k28 := y_eqr (n := 0) rfl c27
      exact ⟨w_m3, f_m3, _, rfl⟩
    · intro c29
      have k30 := y_ner (n := 0) rfl c29
      have r31 := w_m1.at (a := 187) (k := 0) rfl
      refine ⟨?_, ?_⟩
      · intro c32
        have r33 := w_m3.at (a := 187) (k := 11) rfl
        have k34 := y_ner (n := 0) rfl c32
        refine (s_X12_findRest w_m3).to ?_
        rintro _ m5 ⟨w_m5, g35, v6, rfl, p37, p38, p36⟩
        have f_m5 : Fx (RS [20, 22, 24, 26, 28, 34, 35, 49]) m m5 := f_m3.tr g35 (RS_sub rfl)
        have p39 : v6.toInt = 0 ∨ (1 ≤ (m5.1 187 46).toInt ∧ (m5.1 187 45).toInt + (m5.1 187 46).toInt ≤ 2000) := p36
        clear p36
        have e40 : (m5.1 187 16).toInt = ((m3.1 187 16)).toInt := congrArg _ (g35.at (a := 187) (k := 16) (by decide))
        have e41 : (m5.1 187 1).toInt = ((m3.1 187 1)).toInt := congrArg _ (g35.at (a := 187) (k := 1) (by decide))
        have e42 : (m5.1 187 0).toInt = ((m3.1 187 0)).toInt := congrArg _ (g35.at (a := 187) (k := 0) (by decide))
        refine ⟨v6, rfl, ?_⟩
        refine ⟨?_, ?_⟩
        · intro c43
          have k44 := y_ner (n := 0) rfl c43
          have r45 := w_m5.at (a := 187) (k := 45) rfl
          have r46 := w_m5.at (a := 187) (k := 46) rfl
          exact (l_X12_mean (m0 := m) 1000000) _ _ _ _ _ w_m5 f_m5 (by show (0 : Int) ≤ (x1).toInt; omega) (by show (x1).toInt ≤ (7 : Int); omega) (by show (0 : Int) ≤ (x2).toInt; omega) (by show (x2).toInt ≤ (3 : Int); omega) (by show (0 : Int) ≤ ((m5.1 187 45)).toInt; omega) (by show ((m5.1 187 45)).toInt ≤ (2000 : Int); omega) (by show 1 ≤ ((m5.1 187 46)).toInt; omega) (by show ((m5.1 187 45)).toInt + ((m5.1 187 46)).toInt ≤ 2000; omega) (by show 2001 - ((m5.1 187 45)).toInt < _; omega)
        · intro c47
          have k48 := y_eqr (n := 0) rfl c47
          exact ⟨w_m5, f_m5, _, rfl⟩
      · intro c49
        have r50 := w_m3.at (a := 187) (k := 11) rfl
        have k51 := y_eqr (n := 0) rfl c49
        exact ⟨w_m3, f_m3, _, rfl⟩
set_option maxHeartbeats 4000000 in
theorem l_X12_soon {ad : Nat → Nat} {d : Nat} {m0 : Wm}  : ∀ n : Nat, (∀ (m : Wm) (x1 x2 x3 x4 x5 : Int32), WT m → Fx (RS [20, 22, 24, 26, 28, 34, 35, 49]) m0 m → (0 : Int) ≤ x1.toInt → x1.toInt ≤ (7 : Int) → (0 : Int) ≤ x2.toInt → x2.toInt ≤ (3 : Int) → (0 : Int) ≤ x5.toInt → x5.toInt ≤ (3000 : Int) → 3000 - x5.toInt < (n : Int) → AW ad E0 μX12_soon (d + 178) (fun r m' => WT m' ∧ Fx (RS [20, 22, 24, 26, 28, 34, 35, 49]) m0 m' ∧ ∃ v : Int32, r = some (.int v)) 51 [(0, .ref (ad 187)), (1, .int x1), (2, .int x2), (3, .int x3), (4, .int x4), (5, .int x5)] [] m) := by
  intro n
  induction n with
  | zero =>
    intros
    exfalso
    omega
  | succ n ih =>
    intro m x1 x2 x3 x4 x5 w f j1 j2 j3 j4 j5 j6 hn
    refine g_X12_soon_51  ?_
    refine ⟨?_, ?_⟩
    · intro c1
      have r2 := w.at (a := 187) (k := 43) rfl
      have k3 := z_le c1
      refine ⟨?_, ?_⟩
      · intro c4
        have k5 := y_eqr (n := 0) rfl c4
        exact ⟨w, f, _, rfl⟩
      · intro c6
        have k7 := y_ner (n := 0) rfl c6
        exact ⟨w, f, _, rfl⟩
    · intro c8
      have r9 := w.at (a := 187) (k := 43) rfl
      have k10 := z_nle c8
      refine (s_X12_skillIn w (by show (0 : Int) ≤ (x5).toInt; omega) (by show (x5).toInt ≤ (2999 : Int); omega) (by show (0 : Int) ≤ (x1).toInt; omega) (by show (x1).toInt ≤ (7 : Int); omega) (by show (0 : Int) ≤ (x2).toInt; omega) (by show (x2).toInt ≤ (3 : Int); omega)).to ?_
      rintro _ m1 ⟨w_m1, g11, v2, rfl⟩
      have f_m1 : Fx (RS [20, 22, 24, 26, 28, 34, 35, 49]) m0 m1 := f.tr g11 (RS_sub rfl)
      have e12 : (m1.1 187 1).toInt = ((m.1 187 1)).toInt := congrArg _ (g11.at (a := 187) (k := 1) (by decide))
      have e13 : (m1.1 187 0).toInt = ((m.1 187 0)).toInt := congrArg _ (g11.at (a := 187) (k := 0) (by decide))
      refine ⟨v2, rfl, ?_⟩
      refine ⟨?_, ?_⟩
      · intro c14
        have k15 := z_lt c14
        have t16 := ti_addc (x := x5) (y := (1 : Int32)) (c := 1) rfl (by omega)
        exact ih _ _ _ _ _ _ w_m1 f_m1 (by show (0 : Int) ≤ (x1).toInt; omega) (by show (x1).toInt ≤ (7 : Int); omega) (by show (0 : Int) ≤ (x2).toInt; omega) (by show (x2).toInt ≤ (3 : Int); omega) (by show (0 : Int) ≤ ((x5 + (1 : Int32))).toInt; omega) (by show ((x5 + (1 : Int32))).toInt ≤ (3000 : Int); omega) (by show 3000 - ((x5 + (1 : Int32))).toInt < _; omega)
      · intro c17
        have k18 := z_nlt c17
        exact ⟨w_m1, f_m1, _, rfl⟩
set_option maxHeartbeats 4000000 in
theorem s_X12_soon {ad : Nat → Nat} {d : Nat} {m : Wm} {x1 x2 x3 : Int32} (w : WT m) : Ct ad μX12_soon (d + 178) [.ref (ad 187), .int x1, .int x2, .int x3] m (fun r m' => WT m' ∧ Fx (RS [20, 22, 24, 26, 28, 34, 35, 49]) m m' ∧ ∃ v : Int32, r = some (.int v)) := by
  have f : Fx (RS [20, 22, 24, 26, 28, 34, 35, 49]) m m := Fx.rf
  refine v_X12_soon  ?_
  have w1 : WT (uI m 187 17 (0 : Int32)) := w.n rfl
  have f1 : Fx (RS [20, 22, 24, 26, 28, 34, 35, 49]) m (uI m 187 17 (0 : Int32)) := f.i rfl
  refine (s_X12_isSide w1).to ?_
  rintro _ m1 ⟨w_m1, g2, v2, rfl, p4, p5, p3⟩
  have f_m1 : Fx (RS [20, 22, 24, 26, 28, 34, 35, 49]) m m1 := f1.tr g2 (RS_sub rfl)
  have p6 : (v2.toInt = 0 ∧ ((x1).toInt < 0 ∨ ((m.1 187 1)).toInt ≤ (x1).toInt)) ∨ (v2.toInt = 1 ∧ 0 ≤ (x1).toInt ∧ (x1).toInt < ((m.1 187 1)).toInt) := p3
  clear p3
  have e7 : (m1.1 187 1).toInt = ((m.1 187 1)).toInt := congrArg _ (g2.at (a := 187) (k := 1) (by decide))
  have e8 : (m1.1 187 0).toInt = ((m.1 187 0)).toInt := congrArg _ (g2.at (a := 187) (k := 0) (by decide))
  refine ⟨v2, rfl, ?_⟩
  refine ⟨?_, ?_⟩
  · intro c9
    have k10 := y_eqr (n := 0) rfl c9
    exact ⟨w_m1, f_m1, _, rfl⟩
  · intro c11
    have k12 := y_ner (n := 0) rfl c11
    have r13 := w.at (a := 187) (k := 1) rfl
    refine (s_X12_isArt w_m1).to ?_
    rintro _ m3 ⟨w_m3, g14, v4, rfl, p16, p17, p15⟩
    have f_m3 : Fx (RS [20, 22, 24, 26, 28, 34, 35, 49]) m m3 := f_m1.tr g14 (RS_sub rfl)
    have p18 : (v4.toInt = 0 ∧ ((x2).toInt < 0 ∨ ((m1.1 187 0)).toInt ≤ (x2).toInt)) ∨ (v4.toInt = 1 ∧ 0 ≤ (x2).toInt ∧ (x2).toInt < ((m1.1 187 0)).toInt) := p15
    clear p15
    have e19 : (m3.1 187 1).toInt = ((m1.1 187 1)).toInt := congrArg _ (g14.at (a := 187) (k := 1) (by decide))
    have e20 : (m3.1 187 0).toInt = ((m1.1 187 0)).toInt := congrArg _ (g14.at (a := 187) (k := 0) (by decide))
    refine ⟨v4, rfl, ?_⟩
    refine ⟨?_, ?_⟩
    · intro c21
      have k22 := y_eqr (n := 0) rfl c21
      exact ⟨w_m3, f_m3, _, rfl⟩
    · intro c23
      have k24 := y_ner (n := 0) rfl c23
      have r25 := w_m1.at (a := 187) (k := 0) rfl
      refine (s_X12_in (x := x3) (lo := (0 : Int32)) (hi := (7 : Int32)) w_m3 rfl rfl).to ?_
      rintro _ m5 ⟨w_m5, g26, v6, rfl, p28, p29, p27⟩
      have f_m5 : Fx (RS [20, 22, 24, 26, 28, 34, 35, 49]) m m5 := f_m3.tr g26 (RS_sub rfl)
      have p30 : (v6.toInt = 0 ∧ ((x3).toInt < (0 : Int) ∨ (7 : Int) < (x3).toInt)) ∨ (v6.toInt = 1 ∧ (0 : Int) ≤ (x3).toInt ∧ (x3).toInt ≤ (7 : Int)) := p27
      clear p27
      have e31 : (m5.1 187 1).toInt = ((m3.1 187 1)).toInt := congrArg _ (g26.at (a := 187) (k := 1) (by decide))
      have e32 : (m5.1 187 0).toInt = ((m3.1 187 0)).toInt := congrArg _ (g26.at (a := 187) (k := 0) (by decide))
      refine ⟨v6, rfl, ?_⟩
      refine ⟨?_, ?_⟩
      · intro c33
        have k34 := y_eqr (n := 0) rfl c33
        exact ⟨w_m5, f_m5, _, rfl⟩
      · intro c35
        have k36 := y_ner (n := 0) rfl c35
        refine ⟨?_, ?_⟩
        · intro c37
          have r38 := w_m5.at (a := 187) (k := 11) rfl
          have k39 := y_ner (n := 0) rfl c37
          refine (s_X12_findRest w_m5).to ?_
          rintro _ m7 ⟨w_m7, g40, v8, rfl, p42, p43, p41⟩
          have f_m7 : Fx (RS [20, 22, 24, 26, 28, 34, 35, 49]) m m7 := f_m5.tr g40 (RS_sub rfl)
          have p44 : v8.toInt = 0 ∨ (1 ≤ (m7.1 187 46).toInt ∧ (m7.1 187 45).toInt + (m7.1 187 46).toInt ≤ 2000) := p41
          clear p41
          have e45 : (m7.1 187 1).toInt = ((m5.1 187 1)).toInt := congrArg _ (g40.at (a := 187) (k := 1) (by decide))
          have e46 : (m7.1 187 0).toInt = ((m5.1 187 0)).toInt := congrArg _ (g40.at (a := 187) (k := 0) (by decide))
          refine ⟨v8, rfl, ?_⟩
          exact (l_X12_soon (m0 := m) 1000000) _ _ _ _ _ _ w_m7 f_m7 (by show (0 : Int) ≤ (x1).toInt; omega) (by show (x1).toInt ≤ (7 : Int); omega) (by show (0 : Int) ≤ (x2).toInt; omega) (by show (x2).toInt ≤ (3 : Int); omega) (by show (0 : Int) ≤ (0 : Int); omega) (by show (0 : Int) ≤ (3000 : Int); omega) (by show 3000 - (0 : Int) < _; omega)
        · intro c47
          have r48 := w_m5.at (a := 187) (k := 11) rfl
          have k49 := y_eqr (n := 0) rfl c47
          exact ⟨w_m5, f_m5, _, rfl⟩
set_option maxHeartbeats 4000000 in
theorem s_X12_wins {ad : Nat → Nat} {d : Nat} {m : Wm} {x1 x2 x3 : Int32} (w : WT m) (i1 : (m.1 187 11).toInt = 0 ∨ 1 ≤ (m.1 187 10).toInt) : Ct ad μX12_wins (d + 191) [.ref (ad 187), .int x1, .int x2, .int x3] m (fun r m' => WT m' ∧ Fx (RS [20, 22, 24, 26, 28, 36, 37, 49]) m m' ∧ ∃ v : Int32, r = some (.int v) ∧ ((v.toInt = 0 ∧ (0 ≤ x1.toInt ∧ x1.toInt < (m.1 187 1).toInt) ∧ (1 ≤ x2.toInt ∧ x2.toInt ≤ 6) ∧ (0 ≤ x3.toInt ∧ x3.toInt ≤ x2.toInt) ∧ (m.1 187 11).toInt ≠ 0) ∨ (v.toInt = -1 ∧ ¬ ((0 ≤ x1.toInt ∧ x1.toInt < (m.1 187 1).toInt) ∧ (1 ≤ x2.toInt ∧ x2.toInt ≤ 6) ∧ (0 ≤ x3.toInt ∧ x3.toInt ≤ x2.toInt) ∧ (m.1 187 11).toInt ≠ 0)))) := by
  have f : Fx (RS [20, 22, 24, 26, 28, 36, 37, 49]) m m := Fx.rf
  refine v_X12_wins  ?_
  have w1 : WT (uI m 187 17 (0 : Int32)) := w.n rfl
  have f1 : Fx (RS [20, 22, 24, 26, 28, 36, 37, 49]) m (uI m 187 17 (0 : Int32)) := f.i rfl
  refine (s_X12_isSide w1).to ?_
  rintro _ m1 ⟨w_m1, g2, v2, rfl, p4, p5, p3⟩
  have f_m1 : Fx (RS [20, 22, 24, 26, 28, 36, 37, 49]) m m1 := f1.tr g2 (RS_sub rfl)
  have p6 : (v2.toInt = 0 ∧ ((x1).toInt < 0 ∨ ((m.1 187 1)).toInt ≤ (x1).toInt)) ∨ (v2.toInt = 1 ∧ 0 ≤ (x1).toInt ∧ (x1).toInt < ((m.1 187 1)).toInt) := p3
  clear p3
  have e7 : (m1.1 187 11).toInt = ((m.1 187 11)).toInt := congrArg _ (g2.at (a := 187) (k := 11) (by decide))
  have e8 : (m1.1 187 10).toInt = ((m.1 187 10)).toInt := congrArg _ (g2.at (a := 187) (k := 10) (by decide))
  have e9 : (m1.1 187 16).toInt = ((m.1 187 16)).toInt := congrArg _ (g2.at (a := 187) (k := 16) (by decide))
  have e10 : (m1.1 187 1).toInt = ((m.1 187 1)).toInt := congrArg _ (g2.at (a := 187) (k := 1) (by decide))
  have e11 : (m1.1 187 0).toInt = ((m.1 187 0)).toInt := congrArg _ (g2.at (a := 187) (k := 0) (by decide))
  refine ⟨v2, rfl, ?_⟩
  refine ⟨?_, ?_⟩
  · intro c12
    have k13 := y_eqr (n := 0) rfl c12
    exact ⟨w_m1, f_m1, _, rfl, (by show ((-1 : Int) = 0 ∧ (0 ≤ x1.toInt ∧ x1.toInt < (m.1 187 1).toInt) ∧ (1 ≤ x2.toInt ∧ x2.toInt ≤ 6) ∧ (0 ≤ x3.toInt ∧ x3.toInt ≤ x2.toInt) ∧ (m.1 187 11).toInt ≠ 0) ∨ ((-1 : Int) = -1 ∧ ¬ ((0 ≤ x1.toInt ∧ x1.toInt < (m.1 187 1).toInt) ∧ (1 ≤ x2.toInt ∧ x2.toInt ≤ 6) ∧ (0 ≤ x3.toInt ∧ x3.toInt ≤ x2.toInt) ∧ (m.1 187 11).toInt ≠ 0)); omega)⟩
  · intro c14
    have k15 := y_ner (n := 0) rfl c14
    have r16 := w.at (a := 187) (k := 1) rfl
    refine (s_X12_in (x := x2) (lo := (1 : Int32)) (hi := (6 : Int32)) w_m1 rfl rfl).to ?_
    rintro _ m3 ⟨w_m3, g17, v4, rfl, p19, p20, p18⟩
    have f_m3 : Fx (RS [20, 22, 24, 26, 28, 36, 37, 49]) m m3 := f_m1.tr g17 (RS_sub rfl)
    have p21 : (v4.toInt = 0 ∧ ((x2).toInt < (1 : Int) ∨ (6 : Int) < (x2).toInt)) ∨ (v4.toInt = 1 ∧ (1 : Int) ≤ (x2).toInt ∧ (x2).toInt ≤ (6 : Int)) := p18
    clear p18
    have e22 : (m3.1 187 11).toInt = ((m1.1 187 11)).toInt := congrArg _ (g17.at (a := 187) (k := 11) (by decide))
    have e23 : (m3.1 187 10).toInt = ((m1.1 187 10)).toInt := congrArg _ (g17.at (a := 187) (k := 10) (by decide))
    have e24 : (m3.1 187 16).toInt = ((m1.1 187 16)).toInt := congrArg _ (g17.at (a := 187) (k := 16) (by decide))
    have e25 : (m3.1 187 1).toInt = ((m1.1 187 1)).toInt := congrArg _ (g17.at (a := 187) (k := 1) (by decide))
    have e26 : (m3.1 187 0).toInt = ((m1.1 187 0)).toInt := congrArg _ (g17.at (a := 187) (k := 0) (by decide))
    refine ⟨v4, rfl, ?_⟩
    refine ⟨?_, ?_⟩
    · intro c27
      have k28 := y_eqr (n := 0) rfl c27
      exact ⟨w_m3, f_m3, _, rfl, (by show ((-1 : Int) = 0 ∧ (0 ≤ x1.toInt ∧ x1.toInt < (m.1 187 1).toInt) ∧ (1 ≤ x2.toInt ∧ x2.toInt ≤ 6) ∧ (0 ≤ x3.toInt ∧ x3.toInt ≤ x2.toInt) ∧ (m.1 187 11).toInt ≠ 0) ∨ ((-1 : Int) = -1 ∧ ¬ ((0 ≤ x1.toInt ∧ x1.toInt < (m.1 187 1).toInt) ∧ (1 ≤ x2.toInt ∧ x2.toInt ≤ 6) ∧ (0 ≤ x3.toInt ∧ x3.toInt ≤ x2.toInt) ∧ (m.1 187 11).toInt ≠ 0)); omega)⟩
    · intro c29
      have k30 := y_ner (n := 0) rfl c29
      refine (s_X12_in (x := x3) (lo := (0 : Int32)) (hi := x2) w_m3 rfl rfl).to ?_
      rintro _ m5 ⟨w_m5, g31, v6, rfl, p33, p34, p32⟩
      have f_m5 : Fx (RS [20, 22, 24, 26, 28, 36, 37, 49]) m m5 := f_m3.tr g31 (RS_sub rfl)
      have p35 : (v6.toInt = 0 ∧ ((x3).toInt < (0 : Int) ∨ (x2).toInt < (x3).toInt)) ∨ (v6.toInt = 1 ∧ (0 : Int) ≤ (x3).toInt ∧ (x3).toInt ≤ (x2).toInt) := p32
      clear p32
      have e36 : (m5.1 187 11).toInt = ((m3.1 187 11)).toInt := congrArg _ (g31.at (a := 187) (k := 11) (by decide))
      have e37 : (m5.1 187 10).toInt = ((m3.1 187 10)).toInt := congrArg _ (g31.at (a := 187) (k := 10) (by decide))
      have e38 : (m5.1 187 16).toInt = ((m3.1 187 16)).toInt := congrArg _ (g31.at (a := 187) (k := 16) (by decide))
      have e39 : (m5.1 187 1).toInt = ((m3.1 187 1)).toInt := congrArg _ (g31.at (a := 187) (k := 1) (by decide))
      have e40 : (m5.1 187 0).toInt = ((m3.1 187 0)).toInt := congrArg _ (g31.at (a := 187) (k := 0) (by decide))
      refine ⟨v6, rfl, ?_⟩
      refine ⟨?_, ?_⟩
      · intro c41
        have k42 := y_eqr (n := 0) rfl c41
        exact ⟨w_m5, f_m5, _, rfl, (by show ((-1 : Int) = 0 ∧ (0 ≤ x1.toInt ∧ x1.toInt < (m.1 187 1).toInt) ∧ (1 ≤ x2.toInt ∧ x2.toInt ≤ 6) ∧ (0 ≤ x3.toInt ∧ x3.toInt ≤ x2.toInt) ∧ (m.1 187 11).toInt ≠ 0) ∨ ((-1 : Int) = -1 ∧ ¬ ((0 ≤ x1.toInt ∧ x1.toInt < (m.1 187 1).toInt) ∧ (1 ≤ x2.toInt ∧ x2.toInt ≤ 6) ∧ (0 ≤ x3.toInt ∧ x3.toInt ≤ x2.toInt) ∧ (m.1 187 11).toInt ≠ 0)); omega)⟩
      · intro c43
        have k44 := y_ner (n := 0) rfl c43
        refine ⟨?_, ?_⟩
        · intro c45
          have r46 := w_m5.at (a := 187) (k := 11) rfl
          have k47 := y_ner (n := 0) rfl c45
          have r48 := w_m5.at (a := 187) (k := 10) rfl
          refine (s_X12_chanceOfWins w_m5 (by show (0 : Int) ≤ (x2).toInt; omega) (by show (x2).toInt ≤ (6 : Int); omega) (by show 1 ≤ ((m5.1 187 10)).toInt; omega)).to ?_
          rintro _ m7 ⟨w_m7, g49, w8, rfl⟩
          have f_m7 : Fx (RS [20, 22, 24, 26, 28, 36, 37, 49]) m m7 := f_m5.tr g49 (RS_sub rfl)
          have e50 : (m7.1 187 11).toInt = ((m5.1 187 11)).toInt := congrArg _ (g49.at (a := 187) (k := 11) (by decide))
          have e51 : (m7.1 187 10).toInt = ((m5.1 187 10)).toInt := congrArg _ (g49.at (a := 187) (k := 10) (by decide))
          have e52 : (m7.1 187 16).toInt = ((m5.1 187 16)).toInt := congrArg _ (g49.at (a := 187) (k := 16) (by decide))
          have e53 : (m7.1 187 1).toInt = ((m5.1 187 1)).toInt := congrArg _ (g49.at (a := 187) (k := 1) (by decide))
          have e54 : (m7.1 187 0).toInt = ((m5.1 187 0)).toInt := congrArg _ (g49.at (a := 187) (k := 0) (by decide))
          refine ⟨w8, rfl, ?_⟩
          have w55 : WT (uI m7 187 16 (0 : Int32)) := w_m7.t rfl (by show (0 : Int) ≤ (0 : Int); omega) (by show (0 : Int) ≤ 16; omega)
          have f55 : Fx (RS [20, 22, 24, 26, 28, 36, 37, 49]) m (uI m7 187 16 (0 : Int32)) := f_m7.i rfl
          refine (s_X12_power100 w55 (by show (0 : Int) ≤ (x2).toInt; omega) (by show (x2).toInt ≤ (6 : Int); omega)).to ?_
          rintro _ m9 ⟨w_m9, g56, w10, rfl, p57⟩
          have f_m9 : Fx (RS [20, 22, 24, 26, 28, 36, 37, 49]) m m9 := f55.tr g56 (RS_sub rfl)
          have p58 : w10 ≠ 0 := p57
          clear p57
          have e59 : (m9.1 187 11).toInt = ((m7.1 187 11)).toInt := congrArg _ (g56.at (a := 187) (k := 11) (by decide))
          have e60 : (m9.1 187 10).toInt = ((m7.1 187 10)).toInt := congrArg _ (g56.at (a := 187) (k := 10) (by decide))
          have e61 : (m9.1 187 16).toInt = (0 : Int) := congrArg _ (g56.at (a := 187) (k := 16) (by decide))
          have e62 : (m9.1 187 1).toInt = ((m7.1 187 1)).toInt := congrArg _ (g56.at (a := 187) (k := 1) (by decide))
          have e63 : (m9.1 187 0).toInt = ((m7.1 187 0)).toInt := congrArg _ (g56.at (a := 187) (k := 0) (by decide))
          refine ⟨w10, rfl, ?_⟩
          have r64 := w_m9.at (a := 187) (k := 16) rfl
          refine (s_X12_tellPart w_m9 (by assumption) (by show ((m9.1 187 16)).toInt ≤ 14; omega)).to ?_
          rintro _ m11 ⟨w_m11, g65, rfl, p66⟩
          have f_m11 : Fx (RS [20, 22, 24, 26, 28, 36, 37, 49]) m m11 := f_m9.tr g65 (RS_sub rfl)
          have p67 : (m11.1 187 16).toInt = ((m9.1 187 16)).toInt + 2 := p66
          clear p66
          have e68 : (m11.1 187 11).toInt = ((m9.1 187 11)).toInt := congrArg _ (g65.at (a := 187) (k := 11) (by decide))
          have e69 : (m11.1 187 10).toInt = ((m9.1 187 10)).toInt := congrArg _ (g65.at (a := 187) (k := 10) (by decide))
          have e70 : (m11.1 187 1).toInt = ((m9.1 187 1)).toInt := congrArg _ (g65.at (a := 187) (k := 1) (by decide))
          have e71 : (m11.1 187 0).toInt = ((m9.1 187 0)).toInt := congrArg _ (g65.at (a := 187) (k := 0) (by decide))
          refine ⟨rfl, ?_⟩
          exact ⟨w_m11, f_m11, _, rfl, (by show ((0 : Int) = 0 ∧ (0 ≤ x1.toInt ∧ x1.toInt < (m.1 187 1).toInt) ∧ (1 ≤ x2.toInt ∧ x2.toInt ≤ 6) ∧ (0 ≤ x3.toInt ∧ x3.toInt ≤ x2.toInt) ∧ (m.1 187 11).toInt ≠ 0) ∨ ((0 : Int) = -1 ∧ ¬ ((0 ≤ x1.toInt ∧ x1.toInt < (m.1 187 1).toInt) ∧ (1 ≤ x2.toInt ∧ x2.toInt ≤ 6) ∧ (0 ≤ x3.toInt ∧ x3.toInt ≤ x2.toInt) ∧ (m.1 187 11).toInt ≠ 0)); omega)⟩
        · intro c72
          have r73 := w_m5.at (a := 187) (k := 11) rfl
          have k74 := y_eqr (n := 0) rfl c72
          exact ⟨w_m5, f_m5, _, rfl, (by show ((-1 : Int) = 0 ∧ (0 ≤ x1.toInt ∧ x1.toInt < (m.1 187 1).toInt) ∧ (1 ≤ x2.toInt ∧ x2.toInt ≤ 6) ∧ (0 ≤ x3.toInt ∧ x3.toInt ≤ x2.toInt) ∧ (m.1 187 11).toInt ≠ 0) ∨ ((-1 : Int) = -1 ∧ ¬ ((0 ≤ x1.toInt ∧ x1.toInt < (m.1 187 1).toInt) ∧ (1 ≤ x2.toInt ∧ x2.toInt ≤ 6) ∧ (0 ≤ x3.toInt ∧ x3.toInt ≤ x2.toInt) ∧ (m.1 187 11).toInt ≠ 0)); omega)⟩
set_option maxHeartbeats 4000000 in
theorem s_X12_hopes {ad : Nat → Nat} {d : Nat} {m : Wm} {x1 : Int32} (w : WT m) (i1 : (m.1 187 11).toInt = 0 ∨ 1 ≤ (m.1 187 10).toInt) : Ct ad μX12_hopes (d + 191) [.ref (ad 187), .int x1] m (fun r m' => WT m' ∧ Fx (RS [20, 22, 24, 26, 28, 36, 37, 49]) m m' ∧ ∃ v : Int32, r = some (.int v) ∧ ((v.toInt = 0 ∧ (1 ≤ x1.toInt ∧ x1.toInt ≤ 6) ∧ (m.1 187 11).toInt ≠ 0) ∨ (v.toInt = -1 ∧ ¬ ((1 ≤ x1.toInt ∧ x1.toInt ≤ 6) ∧ (m.1 187 11).toInt ≠ 0)))) := by
  have f : Fx (RS [20, 22, 24, 26, 28, 36, 37, 49]) m m := Fx.rf
  refine v_X12_hopes  ?_
  have w1 : WT (uI m 187 17 (0 : Int32)) := w.n rfl
  have f1 : Fx (RS [20, 22, 24, 26, 28, 36, 37, 49]) m (uI m 187 17 (0 : Int32)) := f.i rfl
  refine (s_X12_in (x := x1) (lo := (1 : Int32)) (hi := (6 : Int32)) w1 rfl rfl).to ?_
  rintro _ m1 ⟨w_m1, g2, v2, rfl, p4, p5, p3⟩
  have f_m1 : Fx (RS [20, 22, 24, 26, 28, 36, 37, 49]) m m1 := f1.tr g2 (RS_sub rfl)
  have p6 : (v2.toInt = 0 ∧ ((x1).toInt < (1 : Int) ∨ (6 : Int) < (x1).toInt)) ∨ (v2.toInt = 1 ∧ (1 : Int) ≤ (x1).toInt ∧ (x1).toInt ≤ (6 : Int)) := p3
  clear p3
  have e7 : (m1.1 187 11).toInt = ((m.1 187 11)).toInt := congrArg _ (g2.at (a := 187) (k := 11) (by decide))
  have e8 : (m1.1 187 10).toInt = ((m.1 187 10)).toInt := congrArg _ (g2.at (a := 187) (k := 10) (by decide))
  have e9 : (m1.1 187 16).toInt = ((m.1 187 16)).toInt := congrArg _ (g2.at (a := 187) (k := 16) (by decide))
  have e10 : (m1.1 187 1).toInt = ((m.1 187 1)).toInt := congrArg _ (g2.at (a := 187) (k := 1) (by decide))
  have e11 : (m1.1 187 0).toInt = ((m.1 187 0)).toInt := congrArg _ (g2.at (a := 187) (k := 0) (by decide))
  refine ⟨v2, rfl, ?_⟩
  refine ⟨?_, ?_⟩
  · intro c12
    have k13 := y_eqr (n := 0) rfl c12
    exact ⟨w_m1, f_m1, _, rfl, (by show ((-1 : Int) = 0 ∧ (1 ≤ x1.toInt ∧ x1.toInt ≤ 6) ∧ (m.1 187 11).toInt ≠ 0) ∨ ((-1 : Int) = -1 ∧ ¬ ((1 ≤ x1.toInt ∧ x1.toInt ≤ 6) ∧ (m.1 187 11).toInt ≠ 0)); omega)⟩
  · intro c14
    have k15 := y_ner (n := 0) rfl c14
    refine ⟨?_, ?_⟩
    · intro c16
      have r17 := w_m1.at (a := 187) (k := 11) rfl
      have k18 := y_ner (n := 0) rfl c16
      have w19 : WT (uI m1 187 48 (256 : Int32)) := w_m1.n rfl
      have f19 : Fx (RS [20, 22, 24, 26, 28, 36, 37, 49]) m (uI m1 187 48 (256 : Int32)) := f_m1.i rfl
      have w20 : WT (uI (uI m1 187 48 (256 : Int32)) 187 49 (0 : Int32)) := w19.n rfl
      have f20 : Fx (RS [20, 22, 24, 26, 28, 36, 37, 49]) m (uI (uI m1 187 48 (256 : Int32)) 187 49 (0 : Int32)) := f19.i rfl
      have r21 := w_m1.at (a := 187) (k := 10) rfl
      refine (s_X12_hopeOf w20 (by show (0 : Int) ≤ (x1).toInt; omega) (by show (x1).toInt ≤ (6 : Int); omega) (by show 1 ≤ ((m1.1 187 10)).toInt; omega)).to ?_
      rintro _ m3 ⟨w_m3, g22, w4, rfl⟩
      have f_m3 : Fx (RS [20, 22, 24, 26, 28, 36, 37, 49]) m m3 := f20.tr g22 (RS_sub rfl)
      have e23 : (m3.1 187 11).toInt = ((m1.1 187 11)).toInt := congrArg _ (g22.at (a := 187) (k := 11) (by decide))
      have e24 : (m3.1 187 10).toInt = ((m1.1 187 10)).toInt := congrArg _ (g22.at (a := 187) (k := 10) (by decide))
      have e25 : (m3.1 187 16).toInt = ((m1.1 187 16)).toInt := congrArg _ (g22.at (a := 187) (k := 16) (by decide))
      have e26 : (m3.1 187 1).toInt = ((m1.1 187 1)).toInt := congrArg _ (g22.at (a := 187) (k := 1) (by decide))
      have e27 : (m3.1 187 0).toInt = ((m1.1 187 0)).toInt := congrArg _ (g22.at (a := 187) (k := 0) (by decide))
      refine ⟨w4, rfl, ?_⟩
      have w28 : WT (uI m3 187 16 (0 : Int32)) := w_m3.t rfl (by show (0 : Int) ≤ (0 : Int); omega) (by show (0 : Int) ≤ 16; omega)
      have f28 : Fx (RS [20, 22, 24, 26, 28, 36, 37, 49]) m (uI m3 187 16 (0 : Int32)) := f_m3.i rfl
      refine (s_X12_power100 w28 (by show (0 : Int) ≤ (x1).toInt; omega) (by show (x1).toInt ≤ (6 : Int); omega)).to ?_
      rintro _ m5 ⟨w_m5, g29, w6, rfl, p30⟩
      have f_m5 : Fx (RS [20, 22, 24, 26, 28, 36, 37, 49]) m m5 := f28.tr g29 (RS_sub rfl)
      have p31 : w6 ≠ 0 := p30
      clear p30
      have e32 : (m5.1 187 11).toInt = ((m3.1 187 11)).toInt := congrArg _ (g29.at (a := 187) (k := 11) (by decide))
      have e33 : (m5.1 187 10).toInt = ((m3.1 187 10)).toInt := congrArg _ (g29.at (a := 187) (k := 10) (by decide))
      have e34 : (m5.1 187 16).toInt = (0 : Int) := congrArg _ (g29.at (a := 187) (k := 16) (by decide))
      have e35 : (m5.1 187 1).toInt = ((m3.1 187 1)).toInt := congrArg _ (g29.at (a := 187) (k := 1) (by decide))
      have e36 : (m5.1 187 0).toInt = ((m3.1 187 0)).toInt := congrArg _ (g29.at (a := 187) (k := 0) (by decide))
      refine ⟨w6, rfl, ?_⟩
      have r37 := w_m5.at (a := 187) (k := 16) rfl
      refine (s_X12_tellPart w_m5 (by assumption) (by show ((m5.1 187 16)).toInt ≤ 14; omega)).to ?_
      rintro _ m7 ⟨w_m7, g38, rfl, p39⟩
      have f_m7 : Fx (RS [20, 22, 24, 26, 28, 36, 37, 49]) m m7 := f_m5.tr g38 (RS_sub rfl)
      have p40 : (m7.1 187 16).toInt = ((m5.1 187 16)).toInt + 2 := p39
      clear p39
      have e41 : (m7.1 187 11).toInt = ((m5.1 187 11)).toInt := congrArg _ (g38.at (a := 187) (k := 11) (by decide))
      have e42 : (m7.1 187 10).toInt = ((m5.1 187 10)).toInt := congrArg _ (g38.at (a := 187) (k := 10) (by decide))
      have e43 : (m7.1 187 1).toInt = ((m5.1 187 1)).toInt := congrArg _ (g38.at (a := 187) (k := 1) (by decide))
      have e44 : (m7.1 187 0).toInt = ((m5.1 187 0)).toInt := congrArg _ (g38.at (a := 187) (k := 0) (by decide))
      refine ⟨rfl, ?_⟩
      have r45 := w_m7.at (a := 187) (k := 16) rfl
      refine (s_X12_tell w_m7 (by show ((m7.1 187 16)).toInt ≤ 15; omega)).to ?_
      rintro _ m8 ⟨w_m8, g46, rfl, p47⟩
      have f_m8 : Fx (RS [20, 22, 24, 26, 28, 36, 37, 49]) m m8 := f_m7.tr g46 (RS_sub rfl)
      have p48 : (m8.1 187 16).toInt = ((m7.1 187 16)).toInt + 1 := p47
      clear p47
      have e49 : (m8.1 187 11).toInt = ((m7.1 187 11)).toInt := congrArg _ (g46.at (a := 187) (k := 11) (by decide))
      have e50 : (m8.1 187 10).toInt = ((m7.1 187 10)).toInt := congrArg _ (g46.at (a := 187) (k := 10) (by decide))
      have e51 : (m8.1 187 1).toInt = ((m7.1 187 1)).toInt := congrArg _ (g46.at (a := 187) (k := 1) (by decide))
      have e52 : (m8.1 187 0).toInt = ((m7.1 187 0)).toInt := congrArg _ (g46.at (a := 187) (k := 0) (by decide))
      refine ⟨rfl, ?_⟩
      have r53 := w_m8.at (a := 187) (k := 16) rfl
      refine (s_X12_tell w_m8 (by show ((m8.1 187 16)).toInt ≤ 15; omega)).to ?_
      rintro _ m9 ⟨w_m9, g54, rfl, p55⟩
      have f_m9 : Fx (RS [20, 22, 24, 26, 28, 36, 37, 49]) m m9 := f_m8.tr g54 (RS_sub rfl)
      have p56 : (m9.1 187 16).toInt = ((m8.1 187 16)).toInt + 1 := p55
      clear p55
      have e57 : (m9.1 187 11).toInt = ((m8.1 187 11)).toInt := congrArg _ (g54.at (a := 187) (k := 11) (by decide))
      have e58 : (m9.1 187 10).toInt = ((m8.1 187 10)).toInt := congrArg _ (g54.at (a := 187) (k := 10) (by decide))
      have e59 : (m9.1 187 1).toInt = ((m8.1 187 1)).toInt := congrArg _ (g54.at (a := 187) (k := 1) (by decide))
      have e60 : (m9.1 187 0).toInt = ((m8.1 187 0)).toInt := congrArg _ (g54.at (a := 187) (k := 0) (by decide))
      refine ⟨rfl, ?_⟩
      exact ⟨w_m9, f_m9, _, rfl, (by show ((0 : Int) = 0 ∧ (1 ≤ x1.toInt ∧ x1.toInt ≤ 6) ∧ (m.1 187 11).toInt ≠ 0) ∨ ((0 : Int) = -1 ∧ ¬ ((1 ≤ x1.toInt ∧ x1.toInt ≤ 6) ∧ (m.1 187 11).toInt ≠ 0)); omega)⟩
    · intro c61
      have r62 := w_m1.at (a := 187) (k := 11) rfl
      have k63 := y_eqr (n := 0) rfl c61
      exact ⟨w_m1, f_m1, _, rfl, (by show ((-1 : Int) = 0 ∧ (1 ≤ x1.toInt ∧ x1.toInt ≤ 6) ∧ (m.1 187 11).toInt ≠ 0) ∨ ((-1 : Int) = -1 ∧ ¬ ((1 ≤ x1.toInt ∧ x1.toInt ≤ 6) ∧ (m.1 187 11).toInt ≠ 0)); omega)⟩
set_option maxHeartbeats 4000000 in
theorem l_X12_best {ad : Nat → Nat} {d : Nat} {m0 : Wm}  : ∀ n : Nat, (∀ (m : Wm) (x1 x3 x4 x5 : Int32), WT m → Fx (RS [20, 22, 24, 26, 28, 34, 35, 49]) m0 m → (0 : Int) ≤ x1.toInt → x1.toInt ≤ (7 : Int) → (0 : Int) ≤ x3.toInt → x3.toInt ≤ (2999 : Int) → (0 : Int) ≤ x5.toInt → x5.toInt ≤ (3000 : Int) → 3000 - x5.toInt < (n : Int) → AW ad E0 μX12_best (d + 178) (fun r m' => WT m' ∧ Fx (RS [20, 22, 24, 26, 28, 34, 35, 49]) m0 m' ∧ ∃ v : Int32, r = some (.int v)) 46 [(0, .ref (ad 187)), (1, .int x1), (3, .int x3), (4, .int x4), (5, .int x5)] [] m) := by
  intro n
  induction n with
  | zero =>
    intros
    exfalso
    omega
  | succ n ih =>
    intro m x1 x3 x4 x5 w f j1 j2 j3 j4 j5 j6 hn
    refine g_X12_best_46  ?_
    refine ⟨?_, ?_⟩
    · intro c1
      have r2 := w.at (a := 187) (k := 43) rfl
      have k3 := z_le c1
      refine (s_X12_bring_204 w (by show (0 : Int) ≤ (0 : Int); omega) (by show (0 : Int) ≤ (0 : Int); omega)).to ?_
      rintro _ m1 ⟨w_m1, g4, rfl⟩
      have f_m1 : Fx (RS [20, 22, 24, 26, 28, 34, 35, 49]) m0 m1 := f.tr g4 (RS_sub rfl)
      have e5 : (m1.1 187 16).toInt = ((m.1 187 16)).toInt := congrArg _ (g4.at (a := 187) (k := 16) (by decide))
      have e6 : (m1.1 187 1).toInt = ((m.1 187 1)).toInt := congrArg _ (g4.at (a := 187) (k := 1) (by decide))
      have e7 : (m1.1 187 0).toInt = ((m.1 187 0)).toInt := congrArg _ (g4.at (a := 187) (k := 0) (by decide))
      refine ⟨rfl, ?_⟩
      refine ⟨?_, ?_⟩
      · exact vpi (by omega) (by omega)
      · have w8 : WT (uI m1 187 16 (0 : Int32)) := w_m1.t rfl (by show (0 : Int) ≤ (0 : Int); omega) (by show (0 : Int) ≤ 16; omega)
        have f8 : Fx (RS [20, 22, 24, 26, 28, 34, 35, 49]) m0 (uI m1 187 16 (0 : Int32)) := f_m1.i rfl
        refine (s_X12_tell w8 (by show (0 : Int) ≤ 15; omega)).to ?_
        rintro _ m2 ⟨w_m2, g9, rfl, p10⟩
        have f_m2 : Fx (RS [20, 22, 24, 26, 28, 34, 35, 49]) m0 m2 := f8.tr g9 (RS_sub rfl)
        have p11 : (m2.1 187 16).toInt = (0 : Int) + 1 := p10
        clear p10
        have e12 : (m2.1 187 1).toInt = ((m1.1 187 1)).toInt := congrArg _ (g9.at (a := 187) (k := 1) (by decide))
        have e13 : (m2.1 187 0).toInt = ((m1.1 187 0)).toInt := congrArg _ (g9.at (a := 187) (k := 0) (by decide))
        refine ⟨rfl, ?_⟩
        exact ⟨w_m2, f_m2, _, rfl⟩
    · intro c14
      have r15 := w.at (a := 187) (k := 43) rfl
      have k16 := z_nle c14
      refine (s_X12_load w (by show (0 : Int) ≤ (x5).toInt; omega) (by show (x5).toInt ≤ (2999 : Int); omega)).to ?_
      rintro _ m3 ⟨w_m3, g17, rfl⟩
      have f_m3 : Fx (RS [20, 22, 24, 26, 28, 34, 35, 49]) m0 m3 := f.tr g17 (RS_sub rfl)
      have e18 : (m3.1 187 16).toInt = ((m.1 187 16)).toInt := congrArg _ (g17.at (a := 187) (k := 16) (by decide))
      have e19 : (m3.1 187 1).toInt = ((m.1 187 1)).toInt := congrArg _ (g17.at (a := 187) (k := 1) (by decide))
      have e20 : (m3.1 187 0).toInt = ((m.1 187 0)).toInt := congrArg _ (g17.at (a := 187) (k := 0) (by decide))
      refine ⟨rfl, ?_⟩
      refine (s_X12_power w_m3 (by show (0 : Int) ≤ (x1).toInt; omega) (by show (x1).toInt ≤ (7 : Int); omega)).to ?_
      rintro _ m4 ⟨w_m4, g21, v5, rfl⟩
      have f_m4 : Fx (RS [20, 22, 24, 26, 28, 34, 35, 49]) m0 m4 := f_m3.tr g21 (RS_sub rfl)
      have e22 : (m4.1 187 16).toInt = ((m3.1 187 16)).toInt := congrArg _ (g21.at (a := 187) (k := 16) (by decide))
      have e23 : (m4.1 187 1).toInt = ((m3.1 187 1)).toInt := congrArg _ (g21.at (a := 187) (k := 1) (by decide))
      have e24 : (m4.1 187 0).toInt = ((m3.1 187 0)).toInt := congrArg _ (g21.at (a := 187) (k := 0) (by decide))
      refine ⟨v5, rfl, ?_⟩
      refine ⟨?_, ?_⟩
      · intro c25
        have k26 := y_ler (n := 0) rfl c25
        have t27 := ti_addc (x := x5) (y := (1 : Int32)) (c := 1) rfl (by omega)
        exact ih _ _ _ _ _ w_m4 f_m4 (by show (0 : Int) ≤ (x1).toInt; omega) (by show (x1).toInt ≤ (7 : Int); omega) (by show (0 : Int) ≤ (x5).toInt; omega) (by show (x5).toInt ≤ (2999 : Int); omega) (by show (0 : Int) ≤ ((x5 + (1 : Int32))).toInt; omega) (by show ((x5 + (1 : Int32))).toInt ≤ (3000 : Int); omega) (by show 3000 - ((x5 + (1 : Int32))).toInt < _; omega)
      · intro c28
        have k29 := y_nler (n := 0) rfl c28
        refine ⟨?_, ?_⟩
        · intro c30
          have k31 := z_lt c30
          have t32 := ti_addc (x := x5) (y := (1 : Int32)) (c := 1) rfl (by omega)
          exact ih _ _ _ _ _ w_m4 f_m4 (by show (0 : Int) ≤ (x1).toInt; omega) (by show (x1).toInt ≤ (7 : Int); omega) (by show (0 : Int) ≤ (x5).toInt; omega) (by show (x5).toInt ≤ (2999 : Int); omega) (by show (0 : Int) ≤ ((x5 + (1 : Int32))).toInt; omega) (by show ((x5 + (1 : Int32))).toInt ≤ (3000 : Int); omega) (by show 3000 - ((x5 + (1 : Int32))).toInt < _; omega)
        · intro c33
          have k34 := z_nlt c33
          have t35 := ti_addc (x := x5) (y := (1 : Int32)) (c := 1) rfl (by omega)
          exact ih _ _ _ _ _ w_m4 f_m4 (by show (0 : Int) ≤ (x1).toInt; omega) (by show (x1).toInt ≤ (7 : Int); omega) (by show (0 : Int) ≤ (x3).toInt; omega) (by show (x3).toInt ≤ (2999 : Int); omega) (by show (0 : Int) ≤ ((x5 + (1 : Int32))).toInt; omega) (by show ((x5 + (1 : Int32))).toInt ≤ (3000 : Int); omega) (by show 3000 - ((x5 + (1 : Int32))).toInt < _; omega)
set_option maxHeartbeats 4000000 in
theorem s_X12_best {ad : Nat → Nat} {d : Nat} {m : Wm} {x1 x2 : Int32} (w : WT m) : Ct ad μX12_best (d + 178) [.ref (ad 187), .int x1, .int x2] m (fun r m' => WT m' ∧ Fx (RS [20, 22, 24, 26, 28, 34, 35, 49]) m m' ∧ ∃ v : Int32, r = some (.int v)) := by
  have f : Fx (RS [20, 22, 24, 26, 28, 34, 35, 49]) m m := Fx.rf
  refine v_X12_best  ?_
  have w1 : WT (uI m 187 17 (0 : Int32)) := w.n rfl
  have f1 : Fx (RS [20, 22, 24, 26, 28, 34, 35, 49]) m (uI m 187 17 (0 : Int32)) := f.i rfl
  refine (s_X12_isSide w1).to ?_
  rintro _ m1 ⟨w_m1, g2, v2, rfl, p4, p5, p3⟩
  have f_m1 : Fx (RS [20, 22, 24, 26, 28, 34, 35, 49]) m m1 := f1.tr g2 (RS_sub rfl)
  have p6 : (v2.toInt = 0 ∧ ((x1).toInt < 0 ∨ ((m.1 187 1)).toInt ≤ (x1).toInt)) ∨ (v2.toInt = 1 ∧ 0 ≤ (x1).toInt ∧ (x1).toInt < ((m.1 187 1)).toInt) := p3
  clear p3
  have e7 : (m1.1 187 16).toInt = ((m.1 187 16)).toInt := congrArg _ (g2.at (a := 187) (k := 16) (by decide))
  have e8 : (m1.1 187 1).toInt = ((m.1 187 1)).toInt := congrArg _ (g2.at (a := 187) (k := 1) (by decide))
  have e9 : (m1.1 187 0).toInt = ((m.1 187 0)).toInt := congrArg _ (g2.at (a := 187) (k := 0) (by decide))
  refine ⟨v2, rfl, ?_⟩
  refine ⟨?_, ?_⟩
  · intro c10
    have k11 := y_eqr (n := 0) rfl c10
    exact ⟨w_m1, f_m1, _, rfl⟩
  · intro c12
    have k13 := y_ner (n := 0) rfl c12
    have r14 := w.at (a := 187) (k := 1) rfl
    refine (s_X12_in (x := x2) (lo := (0 : Int32)) (hi := (9 : Int32)) w_m1 rfl rfl).to ?_
    rintro _ m3 ⟨w_m3, g15, v4, rfl, p17, p18, p16⟩
    have f_m3 : Fx (RS [20, 22, 24, 26, 28, 34, 35, 49]) m m3 := f_m1.tr g15 (RS_sub rfl)
    have p19 : (v4.toInt = 0 ∧ ((x2).toInt < (0 : Int) ∨ (9 : Int) < (x2).toInt)) ∨ (v4.toInt = 1 ∧ (0 : Int) ≤ (x2).toInt ∧ (x2).toInt ≤ (9 : Int)) := p16
    clear p16
    have e20 : (m3.1 187 16).toInt = ((m1.1 187 16)).toInt := congrArg _ (g15.at (a := 187) (k := 16) (by decide))
    have e21 : (m3.1 187 1).toInt = ((m1.1 187 1)).toInt := congrArg _ (g15.at (a := 187) (k := 1) (by decide))
    have e22 : (m3.1 187 0).toInt = ((m1.1 187 0)).toInt := congrArg _ (g15.at (a := 187) (k := 0) (by decide))
    refine ⟨v4, rfl, ?_⟩
    refine ⟨?_, ?_⟩
    · intro c23
      have k24 := y_ner (n := 0) rfl c23
      refine (s_X12_findStates w_m3).to ?_
      rintro _ m5 ⟨w_m5, g25, v6, rfl, p27, p28, p26⟩
      have f_m5 : Fx (RS [20, 22, 24, 26, 28, 34, 35, 49]) m m5 := f_m3.tr g25 (RS_sub rfl)
      have p29 : 1 ≤ (m5.1 187 43).toInt := p26
      clear p26
      have e30 : (m5.1 187 16).toInt = ((m3.1 187 16)).toInt := congrArg _ (g25.at (a := 187) (k := 16) (by decide))
      have e31 : (m5.1 187 1).toInt = ((m3.1 187 1)).toInt := congrArg _ (g25.at (a := 187) (k := 1) (by decide))
      have e32 : (m5.1 187 0).toInt = ((m3.1 187 0)).toInt := congrArg _ (g25.at (a := 187) (k := 0) (by decide))
      refine ⟨v6, rfl, ?_⟩
      refine ⟨?_, ?_⟩
      · intro c33
        have k34 := y_ner (n := 0) rfl c33
        exact (l_X12_best (m0 := m) 1000000) _ _ _ _ _ w_m5 f_m5 (by show (0 : Int) ≤ (x1).toInt; omega) (by show (x1).toInt ≤ (7 : Int); omega) (by show (0 : Int) ≤ (0 : Int); omega) (by show (0 : Int) ≤ (2999 : Int); omega) (by show (0 : Int) ≤ (0 : Int); omega) (by show (0 : Int) ≤ (3000 : Int); omega) (by show 3000 - (0 : Int) < _; omega)
      · intro c35
        have k36 := y_eqr (n := 0) rfl c35
        exact ⟨w_m5, f_m5, _, rfl⟩
    · intro c37
      have k38 := y_eqr (n := 0) rfl c37
      exact ⟨w_m3, f_m3, _, rfl⟩
set_option maxHeartbeats 4000000 in
theorem l_X12_even {ad : Nat → Nat} {d : Nat} {m0 : Wm}  : ∀ n : Nat, (∀ (m : Wm) (x2 x3 x4 : Int32), WT m → Fx (RS [20, 22, 24, 26, 28, 34, 35, 49, 33]) m0 m → (0 : Int) ≤ x2.toInt → x2.toInt ≤ (2999 : Int) → (0 : Int) ≤ x4.toInt → x4.toInt ≤ (3000 : Int) → 3000 - x4.toInt < (n : Int) → AW ad E0 μX12_even (d + 178) (fun r m' => WT m' ∧ Fx (RS [20, 22, 24, 26, 28, 34, 35, 49, 33]) m0 m' ∧ ∃ v : Int32, r = some (.int v)) 44 [(0, .ref (ad 187)), (2, .int x2), (3, .int x3), (4, .int x4)] [] m) := by
  intro n
  induction n with
  | zero =>
    intros
    exfalso
    omega
  | succ n ih =>
    intro m x2 x3 x4 w f j1 j2 j3 j4 hn
    refine g_X12_even_44  ?_
    refine ⟨?_, ?_⟩
    · intro c1
      have r2 := w.at (a := 187) (k := 43) rfl
      have k3 := z_le c1
      refine (s_X12_bring_204 w (by show (0 : Int) ≤ (0 : Int); omega) (by show (0 : Int) ≤ (0 : Int); omega)).to ?_
      rintro _ m1 ⟨w_m1, g4, rfl⟩
      have f_m1 : Fx (RS [20, 22, 24, 26, 28, 34, 35, 49, 33]) m0 m1 := f.tr g4 (RS_sub rfl)
      have e5 : (m1.1 187 16).toInt = ((m.1 187 16)).toInt := congrArg _ (g4.at (a := 187) (k := 16) (by decide))
      have e6 : (m1.1 187 1).toInt = ((m.1 187 1)).toInt := congrArg _ (g4.at (a := 187) (k := 1) (by decide))
      have e7 : (m1.1 187 0).toInt = ((m.1 187 0)).toInt := congrArg _ (g4.at (a := 187) (k := 0) (by decide))
      refine ⟨rfl, ?_⟩
      refine ⟨?_, ?_⟩
      · exact vpi (by omega) (by omega)
      · have w8 : WT (uI m1 187 16 (0 : Int32)) := w_m1.t rfl (by show (0 : Int) ≤ (0 : Int); omega) (by show (0 : Int) ≤ 16; omega)
        have f8 : Fx (RS [20, 22, 24, 26, 28, 34, 35, 49, 33]) m0 (uI m1 187 16 (0 : Int32)) := f_m1.i rfl
        refine (s_X12_tell w8 (by show (0 : Int) ≤ 15; omega)).to ?_
        rintro _ m2 ⟨w_m2, g9, rfl, p10⟩
        have f_m2 : Fx (RS [20, 22, 24, 26, 28, 34, 35, 49, 33]) m0 m2 := f8.tr g9 (RS_sub rfl)
        have p11 : (m2.1 187 16).toInt = (0 : Int) + 1 := p10
        clear p10
        have e12 : (m2.1 187 1).toInt = ((m1.1 187 1)).toInt := congrArg _ (g9.at (a := 187) (k := 1) (by decide))
        have e13 : (m2.1 187 0).toInt = ((m1.1 187 0)).toInt := congrArg _ (g9.at (a := 187) (k := 0) (by decide))
        refine ⟨rfl, ?_⟩
        exact ⟨w_m2, f_m2, _, rfl⟩
    · intro c14
      have r15 := w.at (a := 187) (k := 43) rfl
      have k16 := z_nle c14
      refine (s_X12_load w (by show (0 : Int) ≤ (x4).toInt; omega) (by show (x4).toInt ≤ (2999 : Int); omega)).to ?_
      rintro _ m3 ⟨w_m3, g17, rfl⟩
      have f_m3 : Fx (RS [20, 22, 24, 26, 28, 34, 35, 49, 33]) m0 m3 := f.tr g17 (RS_sub rfl)
      have e18 : (m3.1 187 16).toInt = ((m.1 187 16)).toInt := congrArg _ (g17.at (a := 187) (k := 16) (by decide))
      have e19 : (m3.1 187 1).toInt = ((m.1 187 1)).toInt := congrArg _ (g17.at (a := 187) (k := 1) (by decide))
      have e20 : (m3.1 187 0).toInt = ((m.1 187 0)).toInt := congrArg _ (g17.at (a := 187) (k := 0) (by decide))
      refine ⟨rfl, ?_⟩
      refine (s_X12_spreadNow w_m3).to ?_
      rintro _ m4 ⟨w_m4, g21, v5, rfl⟩
      have f_m4 : Fx (RS [20, 22, 24, 26, 28, 34, 35, 49, 33]) m0 m4 := f_m3.tr g21 (RS_sub rfl)
      have e22 : (m4.1 187 16).toInt = ((m3.1 187 16)).toInt := congrArg _ (g21.at (a := 187) (k := 16) (by decide))
      have e23 : (m4.1 187 1).toInt = ((m3.1 187 1)).toInt := congrArg _ (g21.at (a := 187) (k := 1) (by decide))
      have e24 : (m4.1 187 0).toInt = ((m3.1 187 0)).toInt := congrArg _ (g21.at (a := 187) (k := 0) (by decide))
      refine ⟨v5, rfl, ?_⟩
      refine ⟨?_, ?_⟩
      · intro c25
        have k26 := y_ler (n := 0) rfl c25
        have t27 := ti_addc (x := x4) (y := (1 : Int32)) (c := 1) rfl (by omega)
        exact ih _ _ _ _ w_m4 f_m4 (by show (0 : Int) ≤ (x4).toInt; omega) (by show (x4).toInt ≤ (2999 : Int); omega) (by show (0 : Int) ≤ ((x4 + (1 : Int32))).toInt; omega) (by show ((x4 + (1 : Int32))).toInt ≤ (3000 : Int); omega) (by show 3000 - ((x4 + (1 : Int32))).toInt < _; omega)
      · intro c28
        have k29 := y_nler (n := 0) rfl c28
        refine ⟨?_, ?_⟩
        · intro c30
          have k31 := z_lt c30
          have t32 := ti_addc (x := x4) (y := (1 : Int32)) (c := 1) rfl (by omega)
          exact ih _ _ _ _ w_m4 f_m4 (by show (0 : Int) ≤ (x4).toInt; omega) (by show (x4).toInt ≤ (2999 : Int); omega) (by show (0 : Int) ≤ ((x4 + (1 : Int32))).toInt; omega) (by show ((x4 + (1 : Int32))).toInt ≤ (3000 : Int); omega) (by show 3000 - ((x4 + (1 : Int32))).toInt < _; omega)
        · intro c33
          have k34 := z_nlt c33
          have t35 := ti_addc (x := x4) (y := (1 : Int32)) (c := 1) rfl (by omega)
          exact ih _ _ _ _ w_m4 f_m4 (by show (0 : Int) ≤ (x2).toInt; omega) (by show (x2).toInt ≤ (2999 : Int); omega) (by show (0 : Int) ≤ ((x4 + (1 : Int32))).toInt; omega) (by show ((x4 + (1 : Int32))).toInt ≤ (3000 : Int); omega) (by show 3000 - ((x4 + (1 : Int32))).toInt < _; omega)
set_option maxHeartbeats 4000000 in
theorem s_X12_even {ad : Nat → Nat} {d : Nat} {m : Wm} {x1 : Int32} (w : WT m) : Ct ad μX12_even (d + 178) [.ref (ad 187), .int x1] m (fun r m' => WT m' ∧ Fx (RS [20, 22, 24, 26, 28, 34, 35, 49, 33]) m m' ∧ ∃ v : Int32, r = some (.int v)) := by
  have f : Fx (RS [20, 22, 24, 26, 28, 34, 35, 49, 33]) m m := Fx.rf
  refine v_X12_even  ?_
  have w1 : WT (uI m 187 17 (0 : Int32)) := w.n rfl
  have f1 : Fx (RS [20, 22, 24, 26, 28, 34, 35, 49, 33]) m (uI m 187 17 (0 : Int32)) := f.i rfl
  refine (s_X12_in (x := x1) (lo := (0 : Int32)) (hi := (9 : Int32)) w1 rfl rfl).to ?_
  rintro _ m1 ⟨w_m1, g2, v2, rfl, p4, p5, p3⟩
  have f_m1 : Fx (RS [20, 22, 24, 26, 28, 34, 35, 49, 33]) m m1 := f1.tr g2 (RS_sub rfl)
  have p6 : (v2.toInt = 0 ∧ ((x1).toInt < (0 : Int) ∨ (9 : Int) < (x1).toInt)) ∨ (v2.toInt = 1 ∧ (0 : Int) ≤ (x1).toInt ∧ (x1).toInt ≤ (9 : Int)) := p3
  clear p3
  have e7 : (m1.1 187 16).toInt = ((m.1 187 16)).toInt := congrArg _ (g2.at (a := 187) (k := 16) (by decide))
  have e8 : (m1.1 187 1).toInt = ((m.1 187 1)).toInt := congrArg _ (g2.at (a := 187) (k := 1) (by decide))
  have e9 : (m1.1 187 0).toInt = ((m.1 187 0)).toInt := congrArg _ (g2.at (a := 187) (k := 0) (by decide))
  refine ⟨v2, rfl, ?_⟩
  refine ⟨?_, ?_⟩
  · intro c10
    have k11 := y_eqr (n := 0) rfl c10
    exact ⟨w_m1, f_m1, _, rfl⟩
  · intro c12
    have k13 := y_ner (n := 0) rfl c12
    refine ⟨?_, ?_⟩
    · intro c14
      have r15 := w_m1.at (a := 187) (k := 1) rfl
      have k16 := y_ner (n := 0) rfl c14
      refine (s_X12_findStates w_m1).to ?_
      rintro _ m3 ⟨w_m3, g17, v4, rfl, p19, p20, p18⟩
      have f_m3 : Fx (RS [20, 22, 24, 26, 28, 34, 35, 49, 33]) m m3 := f_m1.tr g17 (RS_sub rfl)
      have p21 : 1 ≤ (m3.1 187 43).toInt := p18
      clear p18
      have e22 : (m3.1 187 16).toInt = ((m1.1 187 16)).toInt := congrArg _ (g17.at (a := 187) (k := 16) (by decide))
      have e23 : (m3.1 187 1).toInt = ((m1.1 187 1)).toInt := congrArg _ (g17.at (a := 187) (k := 1) (by decide))
      have e24 : (m3.1 187 0).toInt = ((m1.1 187 0)).toInt := congrArg _ (g17.at (a := 187) (k := 0) (by decide))
      refine ⟨v4, rfl, ?_⟩
      refine ⟨?_, ?_⟩
      · intro c25
        have k26 := y_ner (n := 0) rfl c25
        exact (l_X12_even (m0 := m) 1000000) _ _ _ _ w_m3 f_m3 (by show (0 : Int) ≤ (0 : Int); omega) (by show (0 : Int) ≤ (2999 : Int); omega) (by show (0 : Int) ≤ (0 : Int); omega) (by show (0 : Int) ≤ (3000 : Int); omega) (by show 3000 - (0 : Int) < _; omega)
      · intro c27
        have k28 := y_eqr (n := 0) rfl c27
        exact ⟨w_m3, f_m3, _, rfl⟩
    · intro c29
      have r30 := w_m1.at (a := 187) (k := 1) rfl
      have k31 := y_eqr (n := 0) rfl c29
      exact ⟨w_m1, f_m1, _, rfl⟩
set_option maxHeartbeats 4000000 in
theorem l_X12_all {ad : Nat → Nat} {d : Nat} {m0 : Wm}  : ∀ n : Nat, (∀ (m : Wm) (x1 x2 x3 : Int32), WT m → Fx (RS [20, 22, 24, 26, 28, 34, 35, 49]) m0 m → (0 : Int) ≤ x3.toInt → x3.toInt ≤ (3000 : Int) → (1 ≤ (m.1 187 43).toInt) → 3000 - x3.toInt < (n : Int) → AW ad E0 μX12_all (d + 178) (fun r m' => WT m' ∧ Fx (RS [20, 22, 24, 26, 28, 34, 35, 49]) m0 m' ∧ ∃ v : Int32, r = some (.int v)) 26 [(0, .ref (ad 187)), (1, .int x1), (2, .int x2), (3, .int x3)] [] m) := by
  intro n
  induction n with
  | zero =>
    intros
    exfalso
    omega
  | succ n ih =>
    intro m x1 x2 x3 w f j1 j2 j3 hn
    refine g_X12_all_26  ?_
    refine ⟨?_, ?_⟩
    · intro c1
      have r2 := w.at (a := 187) (k := 43) rfl
      have k3 := z_le c1
      refine (s_X12_bring_204 w (by show (0 : Int) ≤ (0 : Int); omega) (by show (0 : Int) ≤ (0 : Int); omega)).to ?_
      rintro _ m1 ⟨w_m1, g4, rfl⟩
      have f_m1 : Fx (RS [20, 22, 24, 26, 28, 34, 35, 49]) m0 m1 := f.tr g4 (RS_sub rfl)
      have e5 : (m1.1 187 16).toInt = ((m.1 187 16)).toInt := congrArg _ (g4.at (a := 187) (k := 16) (by decide))
      have e6 : (m1.1 187 43).toInt = ((m.1 187 43)).toInt := congrArg _ (g4.at (a := 187) (k := 43) (by decide))
      have e7 : (m1.1 187 1).toInt = ((m.1 187 1)).toInt := congrArg _ (g4.at (a := 187) (k := 1) (by decide))
      have e8 : (m1.1 187 0).toInt = ((m.1 187 0)).toInt := congrArg _ (g4.at (a := 187) (k := 0) (by decide))
      refine ⟨rfl, ?_⟩
      have w9 : WT (uI m1 187 16 (0 : Int32)) := w_m1.t rfl (by show (0 : Int) ≤ (0 : Int); omega) (by show (0 : Int) ≤ 16; omega)
      have f9 : Fx (RS [20, 22, 24, 26, 28, 34, 35, 49]) m0 (uI m1 187 16 (0 : Int32)) := f_m1.i rfl
      refine (s_X12_tell w9 (by show (0 : Int) ≤ 15; omega)).to ?_
      rintro _ m2 ⟨w_m2, g10, rfl, p11⟩
      have f_m2 : Fx (RS [20, 22, 24, 26, 28, 34, 35, 49]) m0 m2 := f9.tr g10 (RS_sub rfl)
      have p12 : (m2.1 187 16).toInt = (0 : Int) + 1 := p11
      clear p11
      have e13 : (m2.1 187 43).toInt = ((m1.1 187 43)).toInt := congrArg _ (g10.at (a := 187) (k := 43) (by decide))
      have e14 : (m2.1 187 1).toInt = ((m1.1 187 1)).toInt := congrArg _ (g10.at (a := 187) (k := 1) (by decide))
      have e15 : (m2.1 187 0).toInt = ((m1.1 187 0)).toInt := congrArg _ (g10.at (a := 187) (k := 0) (by decide))
      refine ⟨rfl, ?_⟩
      have r16 := w_m2.at (a := 187) (k := 16) rfl
      refine (s_X12_tell w_m2 (by show ((m2.1 187 16)).toInt ≤ 15; omega)).to ?_
      rintro _ m3 ⟨w_m3, g17, rfl, p18⟩
      have f_m3 : Fx (RS [20, 22, 24, 26, 28, 34, 35, 49]) m0 m3 := f_m2.tr g17 (RS_sub rfl)
      have p19 : (m3.1 187 16).toInt = ((m2.1 187 16)).toInt + 1 := p18
      clear p18
      have e20 : (m3.1 187 43).toInt = ((m2.1 187 43)).toInt := congrArg _ (g17.at (a := 187) (k := 43) (by decide))
      have e21 : (m3.1 187 1).toInt = ((m2.1 187 1)).toInt := congrArg _ (g17.at (a := 187) (k := 1) (by decide))
      have e22 : (m3.1 187 0).toInt = ((m2.1 187 0)).toInt := congrArg _ (g17.at (a := 187) (k := 0) (by decide))
      refine ⟨rfl, ?_⟩
      refine ⟨?_, ?_⟩
      · have r23 := w_m3.at (a := 187) (k := 43) rfl
        have t24 := ti_subc (x := (m3.1 187 43)) (y := (1 : Int32)) (c := 1) rfl (by omega)
        exact vpi (by omega) (by omega)
      · have r25 := w_m3.at (a := 187) (k := 16) rfl
        refine (s_X12_tell w_m3 (by show ((m3.1 187 16)).toInt ≤ 15; omega)).to ?_
        rintro _ m4 ⟨w_m4, g26, rfl, p27⟩
        have f_m4 : Fx (RS [20, 22, 24, 26, 28, 34, 35, 49]) m0 m4 := f_m3.tr g26 (RS_sub rfl)
        have p28 : (m4.1 187 16).toInt = ((m3.1 187 16)).toInt + 1 := p27
        clear p27
        have e29 : (m4.1 187 43).toInt = ((m3.1 187 43)).toInt := congrArg _ (g26.at (a := 187) (k := 43) (by decide))
        have e30 : (m4.1 187 1).toInt = ((m3.1 187 1)).toInt := congrArg _ (g26.at (a := 187) (k := 1) (by decide))
        have e31 : (m4.1 187 0).toInt = ((m3.1 187 0)).toInt := congrArg _ (g26.at (a := 187) (k := 0) (by decide))
        refine ⟨rfl, ?_⟩
        have r32 := w_m4.at (a := 187) (k := 43) rfl
        exact ⟨w_m4, f_m4, _, rfl⟩
    · intro c33
      have r34 := w.at (a := 187) (k := 43) rfl
      have k35 := z_nle c33
      refine (s_X12_load w (by show (0 : Int) ≤ (x3).toInt; omega) (by show (x3).toInt ≤ (2999 : Int); omega)).to ?_
      rintro _ m5 ⟨w_m5, g36, rfl⟩
      have f_m5 : Fx (RS [20, 22, 24, 26, 28, 34, 35, 49]) m0 m5 := f.tr g36 (RS_sub rfl)
      have e37 : (m5.1 187 16).toInt = ((m.1 187 16)).toInt := congrArg _ (g36.at (a := 187) (k := 16) (by decide))
      have e38 : (m5.1 187 43).toInt = ((m.1 187 43)).toInt := congrArg _ (g36.at (a := 187) (k := 43) (by decide))
      have e39 : (m5.1 187 1).toInt = ((m.1 187 1)).toInt := congrArg _ (g36.at (a := 187) (k := 1) (by decide))
      have e40 : (m5.1 187 0).toInt = ((m.1 187 0)).toInt := congrArg _ (g36.at (a := 187) (k := 0) (by decide))
      refine ⟨rfl, ?_⟩
      refine (s_X12_sumOfAll w_m5).to ?_
      rintro _ m6 ⟨w_m6, g41, v7, rfl⟩
      have f_m6 : Fx (RS [20, 22, 24, 26, 28, 34, 35, 49]) m0 m6 := f_m5.tr g41 (RS_sub rfl)
      have e42 : (m6.1 187 16).toInt = ((m5.1 187 16)).toInt := congrArg _ (g41.at (a := 187) (k := 16) (by decide))
      have e43 : (m6.1 187 43).toInt = ((m5.1 187 43)).toInt := congrArg _ (g41.at (a := 187) (k := 43) (by decide))
      have e44 : (m6.1 187 1).toInt = ((m5.1 187 1)).toInt := congrArg _ (g41.at (a := 187) (k := 1) (by decide))
      have e45 : (m6.1 187 0).toInt = ((m5.1 187 0)).toInt := congrArg _ (g41.at (a := 187) (k := 0) (by decide))
      refine ⟨v7, rfl, ?_⟩
      have t46 := ti_addc (x := x3) (y := (1 : Int32)) (c := 1) rfl (by omega)
      have r47 := w_m6.at (a := 187) (k := 43) rfl
      exact ih _ _ _ _ w_m6 f_m6 (by show (0 : Int) ≤ ((x3 + (1 : Int32))).toInt; omega) (by show ((x3 + (1 : Int32))).toInt ≤ (3000 : Int); omega) (by show 1 ≤ ((m6.1 187 43)).toInt; omega) (by show 3000 - ((x3 + (1 : Int32))).toInt < _; omega)
set_option maxHeartbeats 4000000 in
theorem s_X12_all {ad : Nat → Nat} {d : Nat} {m : Wm} (w : WT m) : Ct ad μX12_all (d + 178) [.ref (ad 187)] m (fun r m' => WT m' ∧ Fx (RS [20, 22, 24, 26, 28, 34, 35, 49]) m m' ∧ ∃ v : Int32, r = some (.int v)) := by
  have f : Fx (RS [20, 22, 24, 26, 28, 34, 35, 49]) m m := Fx.rf
  refine v_X12_all  ?_
  have w1 : WT (uI m 187 17 (0 : Int32)) := w.n rfl
  have f1 : Fx (RS [20, 22, 24, 26, 28, 34, 35, 49]) m (uI m 187 17 (0 : Int32)) := f.i rfl
  refine (s_X12_findStates w1).to ?_
  rintro _ m1 ⟨w_m1, g2, v2, rfl, p4, p5, p3⟩
  have f_m1 : Fx (RS [20, 22, 24, 26, 28, 34, 35, 49]) m m1 := f1.tr g2 (RS_sub rfl)
  have p6 : 1 ≤ (m1.1 187 43).toInt := p3
  clear p3
  have e7 : (m1.1 187 16).toInt = ((m.1 187 16)).toInt := congrArg _ (g2.at (a := 187) (k := 16) (by decide))
  have e8 : (m1.1 187 1).toInt = ((m.1 187 1)).toInt := congrArg _ (g2.at (a := 187) (k := 1) (by decide))
  have e9 : (m1.1 187 0).toInt = ((m.1 187 0)).toInt := congrArg _ (g2.at (a := 187) (k := 0) (by decide))
  refine ⟨v2, rfl, ?_⟩
  refine ⟨?_, ?_⟩
  · intro c10
    have k11 := y_ner (n := 0) rfl c10
    have r12 := w_m1.at (a := 187) (k := 43) rfl
    exact (l_X12_all (m0 := m) 1000000) _ _ _ _ w_m1 f_m1 (by show (0 : Int) ≤ (0 : Int); omega) (by show (0 : Int) ≤ (3000 : Int); omega) (by show 1 ≤ ((m1.1 187 43)).toInt; omega) (by show 3000 - (0 : Int) < _; omega)
  · intro c13
    have k14 := y_eqr (n := 0) rfl c13
    exact ⟨w_m1, f_m1, _, rfl⟩
end
section
/-! TOP, QUICK (model): the way told is a way of states that are there -/
section TQ
variable {ad : Nat → Nat} {m : Wm}
theorem s_X12_top {d : Nat} {x1 x2 x3 : Int32} (w : WT m) : Ct ad μX12_top (d + 178) [.ref (ad 187), .int x1, .int x2, .int x3] m (fun r m' => WT m' ∧ Fx (RS [20, 22, 24, 26, 28, 34, 35, 38, 49]) m m' ∧ ∃ v : Int32, r = some (.int v)) := by
  have z0 : (0 : Int32).toInt = 0 := rfl
  have L : ∀ n : Nat, ∀ (m1 : Wm) (k : Nat), k + n = 3001 → WT m1 → Fx (RS [20, 22, 24, 26, 28, 34, 35, 38, 49]) m m1 → ST m1 → 0 ≤ x1.toInt → x1.toInt ≤ 7 → 0 ≤ x2.toInt → x2.toInt ≤ 3 → AW ad E0 μX12_top (d + 178) (fun r m' => WT m' ∧ Fx (RS [20, 22, 24, 26, 28, 34, 35, 38, 49]) m m' ∧ ∃ v : Int32, r = some (.int v)) 51 [(0, .ref (ad 187)), (1, .int x1), (2, .int x2), (3, .int x3), (4, .int (nI k))] [] m1 := by
    intro n
    induction n with
    | zero =>
      intro m1 k hk w1 f1 s1 a1 a2 a3 a4
      have t43 := w1.at (a := 187) (k := 43) rfl
      have tk : (nI k).toInt = (k : Int) := nI_toInt (by omega)
      exact g_X12_top_51 ⟨fun _ => ⟨w1, f1, _, rfl⟩, fun c => absurd (z_nle c) (by omega)⟩
    | succ n ih =>
      intro m1 k hk w1 f1 s1 a1 a2 a3 a4
      have t43 := w1.at (a := 187) (k := 43) rfl
      have tk : (nI k).toInt = (k : Int) := nI_toInt (by omega)
      refine g_X12_top_51 ⟨fun _ => ⟨w1, f1, _, rfl⟩, fun c => ?_⟩
      have c' := z_nle c
      refine (s_X12_skillIn w1 (by omega) (by omega) a1 a2 a3 a4).to ?_
      rintro _ m2 ⟨w2, f2, v, rfl⟩
      have s2 := s1.fx f2 rfl
      have e2 := f2.at (a := 187) (k := 43) (by decide)
      refine ⟨v, rfl, fun _ => ?_, fun _ => (tellWay_ok w2 s2 (by omega) (by rw [e2]; omega)).to ?_⟩
      · rw [nI_1]
        exact ih m2 (k + 1) (by omega) w2 (f1.tr f2 (RS_sub rfl)) s2 a1 a2 a3 a4
      · rintro _ m3 ⟨w3, f3, v3, rfl⟩
        exact ⟨v3, rfl, w3, (f1.tr f2 (RS_sub rfl)).tr f3 (RS_sub rfl), _, rfl⟩
  have w0 : WT (uI m 187 17 0) := w.n rfl
  have f0 : Fx (RS [20, 22, 24, 26, 28, 34, 35, 38, 49]) m (uI m 187 17 0) := Fx.rf.i rfl
  refine v_X12_top ((s_X12_isSide w0).to ?_)
  rintro _ m1 ⟨w1, f1, v1, rfl, a1, a2, a3⟩
  have f1' := f0.tr f1 (RS_sub rfl)
  refine ⟨v1, rfl, fun _ => ⟨w1, f1', _, rfl⟩, fun c1 => (s_X12_isArt w1).to ?_⟩
  rintro _ m2 ⟨w2, f2, v2, rfl, b1, b2, b3⟩
  have f2' := f1'.tr f2 (RS_sub rfl)
  refine ⟨v2, rfl, fun _ => ⟨w2, f2', _, rfl⟩, fun c2 => (s_X12_in (x := x3) (lo := 0) (hi := 7) w2 rfl rfl).to ?_⟩
  rintro _ m3 ⟨w3, f3, v3, rfl, -⟩
  have f3' := f2'.tr f3 (RS_sub rfl)
  refine ⟨v3, rfl, fun _ => (findStates_ok w3).to ?_, fun _ => ⟨w3, f3', _, rfl⟩⟩
  rintro _ m4 ⟨w4, f4, s4, g4, v4, rfl, -⟩
  have f4' := f3'.tr f4 (RS_sub rfl)
  have k1 := z_ne c1
  have k2 := z_ne c2
  have t0 := w0.at (a := 187) (k := 1) rfl
  have t1 := w1.at (a := 187) (k := 0) rfl
  refine ⟨v4, rfl, fun _ => L 3001 m4 0 (by decide) w4 f4' s4 (by omega) (by omega) (by omega) (by omega), fun _ => ⟨w4, f4', _, rfl⟩⟩
theorem s_X12_quick {d : Nat} {x1 : Int32} (w : WT m) : Ct ad μX12_quick (d + 178) [.ref (ad 187), .int x1] m (fun r m' => WT m' ∧ Fx (RS [20, 22, 24, 26, 28, 34, 35, 38, 49]) m m' ∧ ∃ v : Int32, r = some (.int v)) := by
  have z0 : (0 : Int32).toInt = 0 := rfl
  have zn1 : (-1 : Int32).toInt = -1 := rfl
  have w0 : WT (uI m 187 17 0) := w.n rfl
  have f0 : Fx (RS [20, 22, 24, 26, 28, 34, 35, 38, 49]) m (uI m 187 17 0) := Fx.rf.i rfl
  have L100 : ∀ (m1 : Wm) (x2 : Int32), WT m1 → Fx (RS [20, 22, 24, 26, 28, 34, 35, 38, 49]) m m1 → ST m1 → x2.toInt = -1 ∨ (0 ≤ x2.toInt ∧ x2.toInt < (m1.1 187 43).toInt) → AW ad E0 μX12_quick (d + 178) (fun r m' => WT m' ∧ Fx (RS [20, 22, 24, 26, 28, 34, 35, 38, 49]) m m' ∧ ∃ v : Int32, r = some (.int v)) 100 [(0, .ref (ad 187)), (2, .int x2)] [] m1 := by
    intro m1 x2 w1 f1 s1 h
    refine g_X12_quick_100 ((s_X12_bring_204 w1 (by decide) (by decide)).to ?_)
    rintro _ m2 ⟨w2, f2, rfl⟩
    have s2 := s1.fx f2 rfl
    have e2 := f2.at (a := 187) (k := 43) (by decide)
    refine ⟨rfl, fun c => ?_, fun _ => ⟨w2, f1.tr f2 (RS_sub rfl), _, rfl⟩⟩
    have c' := z_ne c
    refine (tellWay_ok w2 s2 (by omega) (by rw [e2]; omega)).to ?_
    rintro _ m3 ⟨w3, f3, v3, rfl⟩
    exact ⟨v3, rfl, w3, (f1.tr f2 (RS_sub rfl)).tr f3 (RS_sub rfl), _, rfl⟩
  have L : ∀ n : Nat, (∀ (m1 : Wm) (x2 x3 : Int32), WT m1 → Fx (RS [20, 22, 24, 26, 28, 34, 35, 38, 49]) m m1 → ST m1 → (x2.toInt = -1 ∨ (0 ≤ x2.toInt ∧ x2.toInt < (m1.1 187 43).toInt)) → 0 ≤ x3.toInt → x3.toInt ≤ 3000 → (3000 - x3.toInt) * 20 + 15 < (n : Int) → AW ad E0 μX12_quick (d + 178) (fun r m' => WT m' ∧ Fx (RS [20, 22, 24, 26, 28, 34, 35, 38, 49]) m m' ∧ ∃ v : Int32, r = some (.int v)) 22 [(0, .ref (ad 187)), (1, .int x1), (2, .int x2), (3, .int x3)] [] m1) ∧
      (∀ (m1 : Wm) (x3 x4 x5 : Int32), WT m1 → Fx (RS [20, 22, 24, 26, 28, 34, 35, 38, 49]) m m1 → ST m1 → 0 ≤ x3.toInt → x3.toInt < (m1.1 187 43).toInt → 0 ≤ x5.toInt → x5.toInt ≤ 8 → (3000 - x3.toInt) * 20 + 10 - x5.toInt < (n : Int) → AW ad E0 μX12_quick (d + 178) (fun r m' => WT m' ∧ Fx (RS [20, 22, 24, 26, 28, 34, 35, 38, 49]) m m' ∧ ∃ v : Int32, r = some (.int v)) 46 [(0, .ref (ad 187)), (1, .int x1), (3, .int x3), (4, .int x4), (5, .int x5)] [] m1) ∧
      (∀ (m1 : Wm) (x3 x4 : Int32), WT m1 → Fx (RS [20, 22, 24, 26, 28, 34, 35, 38, 49]) m m1 → ST m1 → 0 ≤ x3.toInt → x3.toInt < (m1.1 187 43).toInt → (3000 - x3.toInt) * 20 < (n : Int) → AW ad E0 μX12_quick (d + 178) (fun r m' => WT m' ∧ Fx (RS [20, 22, 24, 26, 28, 34, 35, 38, 49]) m m' ∧ ∃ v : Int32, r = some (.int v)) 83 [(0, .ref (ad 187)), (1, .int x1), (3, .int x3), (4, .int x4)] [] m1) := by
    intro n
    induction n with
    | zero =>
      refine ⟨fun m1 x2 x3 w1 f1 s1 h a b c => ?_, fun m1 x3 x4 x5 w1 f1 s1 a b c e g => ?_, fun m1 x3 x4 w1 f1 s1 a b c => ?_⟩
      all_goals have t43 := w1.at (a := 187) (k := 43) rfl
      all_goals exfalso
      all_goals omega
    | succ n ih =>
      refine ⟨fun m1 x2 x3 w1 f1 s1 h a b c => ?_, fun m1 x3 x4 x5 w1 f1 s1 a b c e g => ?_, fun m1 x3 x4 w1 f1 s1 a b c => ?_⟩
      all_goals have t43 := w1.at (a := 187) (k := 43) rfl
      · refine g_X12_quick_22 ⟨fun _ => L100 _ _ w1 f1 s1 h, fun q => ⟨fun _ => L100 _ _ w1 f1 s1 h, fun _ => ?_⟩⟩
        have q' := z_nle q
        refine (s_X12_load w1 (by omega) (by omega)).to ?_
        rintro _ m2 ⟨w2, f2, rfl⟩
        have e2 := f2.at (a := 187) (k := 43) (by decide)
        exact ⟨rfl, ih.2.1 m2 x3 1 0 w2 (f1.tr f2 (RS_sub rfl)) (s1.fx f2 rfl) a (by rw [e2]; omega) (by decide) (by decide) (by omega)⟩
      · have t11 := w1.at (a := 187) (k := 1) rfl
        refine g_X12_quick_46 ⟨fun _ => ih.2.2 m1 x3 x4 w1 f1 s1 a b (by omega), fun q => ⟨fun _ => ih.2.2 m1 x3 x4 w1 f1 s1 a b (by omega), fun _ => ?_⟩⟩
        have q' := z_nle q
        have t5 := ti_addc (x := x5) (y := 1) (c := 1) rfl (by omega)
        refine (s_X12_power w1 (by omega) (by omega)).to ?_
        rintro _ m2 ⟨w2, f2, v, rfl⟩
        have e2 := f2.at (a := 187) (k := 43) (by decide)
        have s2 := s1.fx f2 rfl
        have f2' := f1.tr f2 (RS_sub rfl)
        exact ⟨v, rfl, fun _ => ih.2.1 m2 x3 0 (x5 + 1) w2 f2' s2 a (by rw [e2]; omega) (by omega) (by omega) (by omega), fun _ => ih.2.1 m2 x3 1 (x5 + 1) w2 f2' s2 a (by rw [e2]; omega) (by omega) (by omega) (by omega)⟩
      · have t3 := ti_addc (x := x3) (y := 1) (c := 1) rfl (by omega)
        exact g_X12_quick_83 ⟨fun _ => ih.1 m1 (-1) (x3 + 1) w1 f1 s1 (Or.inl zn1) (by omega) (by omega) (by omega), fun _ => ih.1 m1 x3 (x3 + 1) w1 f1 s1 (Or.inr ⟨a, b⟩) (by omega) (by omega) (by omega)⟩
  refine v_X12_quick ((findStates_ok w0).to ?_)
  rintro _ m4 ⟨w4, f4, s4, g4, v4, rfl, -⟩
  have f4' := f0.tr f4 (RS_sub rfl)
  exact ⟨v4, rfl, fun _ => (L 100000).1 m4 (-1) 0 w4 f4' s4 (Or.inl zn1) (by decide) (by decide) (by rw [z0]; decide), fun _ => ⟨w4, f4', _, rfl⟩⟩
end TQ
end
