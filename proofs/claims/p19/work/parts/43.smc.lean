/-! SAFETY OF THE MODEL, BY PROGRAM (remember .. master) -/
set_option maxHeartbeats 4000000 in
theorem l_X12_remember {ad : Nat → Nat} {d : Nat} {m0 : Wm}  : ∀ n : Nat, (∀ (m : Wm) (x1 : Int32), WT m → Fx (RS [29]) m0 m → (0 : Int) ≤ x1.toInt → x1.toInt ≤ (1083 : Int) → ((m.1 187 30).toInt = 20) → 1083 - x1.toInt + 1 < (n : Int) → AW ad E0 μX12_remember (d + 1) (fun r m' => WT m' ∧ Fx (RS [29]) m0 m' ∧ r = none) 11 [(0, .ref (ad 187)), (1, .int x1)] [] m) ∧ (∀ (m : Wm), WT m → Fx (RS [29]) m0 m → ((m.1 187 30).toInt ≤ 19) → 0 * (m.1 187 30).toInt < (n : Int) → AW ad E0 μX12_remember (d + 1) (fun r m' => WT m' ∧ Fx (RS [29]) m0 m' ∧ r = none) 49 [(0, .ref (ad 187))] [] m) := by
  intro n
  induction n with
  | zero =>
    refine ⟨?_, ?_⟩ <;> intros <;> exfalso <;> omega
  | succ n ih =>
    refine ⟨?_, ?_⟩
    · intro m x1 w f j1 j2 j3 hn
      refine g_X12_remember_11  ?_
      refine ⟨?_, ?_⟩
      · intro c1
        have k2 := y_lel (n := 1083) rfl c1
        have r4 := w.at (a := 187) (k := 30) rfl
        have t5 := ti_subc (x := (m.1 187 30)) (y := (1 : Int32)) (c := 1) rfl (by omega)
        have w3 : WT (uI m 187 30 ((m.1 187 30) - (1 : Int32))) := w.t rfl (by show (0 : Int) ≤ (((m.1 187 30) - (1 : Int32))).toInt; omega) (by show (((m.1 187 30) - (1 : Int32))).toInt ≤ 20; omega)
        have f3 : Fx (RS [29]) m0 (uI m 187 30 ((m.1 187 30) - (1 : Int32))) := f.i rfl
        exact ih.2 _ w3 f3 (by show (((m.1 187 30) - (1 : Int32))).toInt ≤ 19; omega) (by show 0 * (((m.1 187 30) - (1 : Int32))).toInt < _; omega)
      · intro c6
        have k7 := y_nlel (n := 1083) rfl c6
        refine ⟨?_, ?_⟩
        · have t8 := ti_addc (x := x1) (y := (57 : Int32)) (c := 57) rfl (by omega)
          exact vpi (by omega) (by omega)
        · refine ⟨?_, ?_⟩
          · exact vpi (by omega) (by omega)
          · have w9 : WT (uI m 201 x1.toNatClampNeg (m.1 201 ((x1 + (57 : Int32)).toNatClampNeg))) := w.n rfl
            have f9 : Fx (RS [29]) m0 (uI m 201 x1.toNatClampNeg (m.1 201 ((x1 + (57 : Int32)).toNatClampNeg))) := f.i rfl
            have t10 := ti_addc (x := x1) (y := (1 : Int32)) (c := 1) rfl (by omega)
            have r11 := w.at (a := 187) (k := 30) rfl
            exact ih.1 _ _ w9 f9 (by show (0 : Int) ≤ ((x1 + (1 : Int32))).toInt; omega) (by show ((x1 + (1 : Int32))).toInt ≤ (1083 : Int); omega) (by show ((m.1 187 30)).toInt = 20; omega) (by show 1083 - ((x1 + (1 : Int32))).toInt + 1 < _; omega)
    · intro m  w f j1 hn
      refine g_X12_remember_49  ?_
      have r1 := w.at (a := 187) (k := 30) rfl
      have t2 := ti_mulc (c := 57) (y := (57 : Int32)) (x := (m.1 187 30)) rfl (by omega)
      refine (s_X12_lay_201 w (by show (0 : Int) ≤ (((57 : Int32) * (m.1 187 30))).toInt; omega) (by show (((57 : Int32) * (m.1 187 30))).toInt ≤ (1083 : Int); omega)).to ?_
      rintro _ m1 ⟨w_m1, g3, rfl, p4⟩
      have f_m1 : Fx (RS [29]) m0 m1 := f.tr g3 (RS_sub rfl)
      have p5 : (m1.1 187 30).toInt = ((m.1 187 30)).toInt := p4
      clear p4
      have e6 : (m1.1 187 1).toInt = ((m.1 187 1)).toInt := congrArg _ (g3.at (a := 187) (k := 1) (by decide))
      have e7 : (m1.1 187 0).toInt = ((m.1 187 0)).toInt := congrArg _ (g3.at (a := 187) (k := 0) (by decide))
      refine ⟨rfl, ?_⟩
      have r9 := w_m1.at (a := 187) (k := 30) rfl
      have t10 := ti_addc (x := (m1.1 187 30)) (y := (1 : Int32)) (c := 1) rfl (by omega)
      have w8 : WT (uI m1 187 30 ((m1.1 187 30) + (1 : Int32))) := w_m1.t rfl (by show (0 : Int) ≤ (((m1.1 187 30) + (1 : Int32))).toInt; omega) (by show (((m1.1 187 30) + (1 : Int32))).toInt ≤ 20; omega)
      have f8 : Fx (RS [29]) m0 (uI m1 187 30 ((m1.1 187 30) + (1 : Int32))) := f_m1.i rfl
      exact ⟨w8, f8, rfl⟩
set_option maxHeartbeats 4000000 in
theorem s_X12_remember {ad : Nat → Nat} {d : Nat} {m : Wm} (w : WT m) : Ct ad μX12_remember (d + 1) [.ref (ad 187)] m (fun r m' => WT m' ∧ Fx (RS [29]) m m' ∧ r = none) := by
  have f : Fx (RS [29]) m m := Fx.rf
  refine v_X12_remember  ?_
  refine ⟨?_, ?_⟩
  · intro c1
    have r2 := w.at (a := 187) (k := 30) rfl
    have k3 := y_ner (n := 20) rfl c1
    exact (l_X12_remember (m0 := m) 1000000).2 _ w f (by show ((m.1 187 30)).toInt ≤ 19; omega) (by show 0 * ((m.1 187 30)).toInt < _; omega)
  · intro c4
    have r5 := w.at (a := 187) (k := 30) rfl
    have k6 := y_eqr (n := 20) rfl c4
    exact (l_X12_remember (m0 := m) 1000000).1 _ _ w f (by show (0 : Int) ≤ (0 : Int); omega) (by show (0 : Int) ≤ (1083 : Int); omega) (by show ((m.1 187 30)).toInt = 20; omega) (by show 1083 - (0 : Int) + 1 < _; omega)
set_option maxHeartbeats 4000000 in
theorem s_X12_play {ad : Nat → Nat} {d : Nat} {m : Wm} {x1 x2 x3 : Int32} (w : WT m) : Ct ad μX12_play (d + 171) [.ref (ad 187), .int x1, .int x2, .int x3] m (fun r m' => WT m' ∧ Fx (RS [20, 22, 24, 26, 28, 29, 49]) m m' ∧ ∃ v : Int32, r = some (.int v)) := by
  have f : Fx (RS [20, 22, 24, 26, 28, 29, 49]) m m := Fx.rf
  refine v_X12_play  ?_
  have w1 : WT (uI m 187 17 (0 : Int32)) := w.n rfl
  have f1 : Fx (RS [20, 22, 24, 26, 28, 29, 49]) m (uI m 187 17 (0 : Int32)) := f.i rfl
  refine (s_X12_areTwo w1).to ?_
  rintro _ m1 ⟨w_m1, g2, v2, rfl, p4, p5, p3⟩
  have f_m1 : Fx (RS [20, 22, 24, 26, 28, 29, 49]) m m1 := f1.tr g2 (RS_sub rfl)
  have p6 : (v2.toInt = 0 ∧ ((x1).toInt < 0 ∨ ((m.1 187 1)).toInt ≤ (x1).toInt ∨ (x2).toInt < 0 ∨ ((m.1 187 1)).toInt ≤ (x2).toInt ∨ (x1).toInt = (x2).toInt)) ∨ (v2.toInt = 1 ∧ 0 ≤ (x1).toInt ∧ (x1).toInt < ((m.1 187 1)).toInt ∧ 0 ≤ (x2).toInt ∧ (x2).toInt < ((m.1 187 1)).toInt ∧ (x1).toInt ≠ (x2).toInt) := p3
  clear p3
  have e7 : (m1.1 187 16).toInt = ((m.1 187 16)).toInt := congrArg _ (g2.at (a := 187) (k := 16) (by decide))
  have e8 : (m1.1 187 1).toInt = ((m.1 187 1)).toInt := congrArg _ (g2.at (a := 187) (k := 1) (by decide))
  have e9 : (m1.1 187 0).toInt = ((m.1 187 0)).toInt := congrArg _ (g2.at (a := 187) (k := 0) (by decide))
  refine ⟨v2, rfl, ?_⟩
  refine ⟨?_, ?_⟩
  · intro c10
    have k11 := y_eqr (n := 0) rfl c10
    exact ⟨w_m1, f_m1, _, rfl⟩
  · intro c12
    have k13 := y_ner (n := 0) rfl c12
    have r14 := w.at (a := 187) (k := 1) rfl
    refine (s_X12_isThrown w_m1).to ?_
    rintro _ m3 ⟨w_m3, g15, v4, rfl, p16, p17⟩
    have f_m3 : Fx (RS [20, 22, 24, 26, 28, 29, 49]) m m3 := f_m1.tr g15 (RS_sub rfl)
    have e18 : (m3.1 187 16).toInt = ((m1.1 187 16)).toInt := congrArg _ (g15.at (a := 187) (k := 16) (by decide))
    have e19 : (m3.1 187 1).toInt = ((m1.1 187 1)).toInt := congrArg _ (g15.at (a := 187) (k := 1) (by decide))
    have e20 : (m3.1 187 0).toInt = ((m1.1 187 0)).toInt := congrArg _ (g15.at (a := 187) (k := 0) (by decide))
    refine ⟨v4, rfl, ?_⟩
    refine ⟨?_, ?_⟩
    · intro c21
      have k22 := y_ner (n := 0) rfl c21
      refine (s_X12_remember w_m3).to ?_
      rintro _ m5 ⟨w_m5, g23, rfl⟩
      have f_m5 : Fx (RS [20, 22, 24, 26, 28, 29, 49]) m m5 := f_m3.tr g23 (RS_sub rfl)
      have e24 : (m5.1 187 16).toInt = ((m3.1 187 16)).toInt := congrArg _ (g23.at (a := 187) (k := 16) (by decide))
      have e25 : (m5.1 187 1).toInt = ((m3.1 187 1)).toInt := congrArg _ (g23.at (a := 187) (k := 1) (by decide))
      have e26 : (m5.1 187 0).toInt = ((m3.1 187 0)).toInt := congrArg _ (g23.at (a := 187) (k := 0) (by decide))
      refine ⟨rfl, ?_⟩
      refine (s_X12_goGame w_m5 (by show (0 : Int) ≤ (x1).toInt; omega) (by show (x1).toInt ≤ (7 : Int); omega) (by show (0 : Int) ≤ (x2).toInt; omega) (by show (x2).toInt ≤ (7 : Int); omega)).to ?_
      rintro _ m6 ⟨w_m6, g27, v7, rfl, p28, p29⟩
      have f_m6 : Fx (RS [20, 22, 24, 26, 28, 29, 49]) m m6 := f_m5.tr g27 (RS_sub rfl)
      have e30 : (m6.1 187 16).toInt = ((m5.1 187 16)).toInt := congrArg _ (g27.at (a := 187) (k := 16) (by decide))
      have e31 : (m6.1 187 1).toInt = ((m5.1 187 1)).toInt := congrArg _ (g27.at (a := 187) (k := 1) (by decide))
      have e32 : (m6.1 187 0).toInt = ((m5.1 187 0)).toInt := congrArg _ (g27.at (a := 187) (k := 0) (by decide))
      refine ⟨v7, rfl, ?_⟩
      refine ⟨?_, ?_⟩
      · exact vpi (by omega) (by omega)
      · have w33 : WT (uI m6 187 16 (0 : Int32)) := w_m6.t rfl (by show (0 : Int) ≤ (0 : Int); omega) (by show (0 : Int) ≤ 16; omega)
        have f33 : Fx (RS [20, 22, 24, 26, 28, 29, 49]) m (uI m6 187 16 (0 : Int32)) := f_m6.i rfl
        refine (s_X12_tell w33 (by show (0 : Int) ≤ 15; omega)).to ?_
        rintro _ m8 ⟨w_m8, g34, rfl, p35⟩
        have f_m8 : Fx (RS [20, 22, 24, 26, 28, 29, 49]) m m8 := f33.tr g34 (RS_sub rfl)
        have p36 : (m8.1 187 16).toInt = (0 : Int) + 1 := p35
        clear p35
        have e37 : (m8.1 187 1).toInt = ((m6.1 187 1)).toInt := congrArg _ (g34.at (a := 187) (k := 1) (by decide))
        have e38 : (m8.1 187 0).toInt = ((m6.1 187 0)).toInt := congrArg _ (g34.at (a := 187) (k := 0) (by decide))
        refine ⟨rfl, ?_⟩
        refine ⟨?_, ?_⟩
        · exact vpi (by omega) (by omega)
        · have r39 := w_m8.at (a := 187) (k := 16) rfl
          refine (s_X12_tell w_m8 (by show ((m8.1 187 16)).toInt ≤ 15; omega)).to ?_
          rintro _ m9 ⟨w_m9, g40, rfl, p41⟩
          have f_m9 : Fx (RS [20, 22, 24, 26, 28, 29, 49]) m m9 := f_m8.tr g40 (RS_sub rfl)
          have p42 : (m9.1 187 16).toInt = ((m8.1 187 16)).toInt + 1 := p41
          clear p41
          have e43 : (m9.1 187 1).toInt = ((m8.1 187 1)).toInt := congrArg _ (g40.at (a := 187) (k := 1) (by decide))
          have e44 : (m9.1 187 0).toInt = ((m8.1 187 0)).toInt := congrArg _ (g40.at (a := 187) (k := 0) (by decide))
          refine ⟨rfl, ?_⟩
          exact ⟨w_m9, f_m9, _, rfl⟩
    · intro c45
      have k46 := y_eqr (n := 0) rfl c45
      exact ⟨w_m3, f_m3, _, rfl⟩
set_option maxHeartbeats 4000000 in
theorem s_X12_undo {ad : Nat → Nat} {d : Nat} {m : Wm} (w : WT m) : Ct ad μX12_undo (d + 1) [.ref (ad 187)] m (fun r m' => WT m' ∧ Fx (RS [20, 24, 29, 49]) m m' ∧ ∃ v : Int32, r = some (.int v)) := by
  have f : Fx (RS [20, 24, 29, 49]) m m := Fx.rf
  refine v_X12_undo  ?_
  refine ⟨?_, ?_⟩
  · intro c1
    have r2 := w.at (a := 187) (k := 30) rfl
    have c3 : ¬ (m.1 187 30) = (0 : Int32) := c1
    have k4 := y_ner (n := 0) rfl c3
    have w5 : WT (uI m 187 17 (0 : Int32)) := w.n rfl
    have f5 : Fx (RS [20, 24, 29, 49]) m (uI m 187 17 (0 : Int32)) := f.i rfl
    have t7 := ti_subc (x := (m.1 187 30)) (y := (1 : Int32)) (c := 1) rfl (by omega)
    have w6 : WT (uI (uI m 187 17 (0 : Int32)) 187 30 (((uI m 187 17 (0 : Int32)).1 187 30) - (1 : Int32))) := w5.t rfl (by show (0 : Int) ≤ (((m.1 187 30) - (1 : Int32))).toInt; omega) (by show (((m.1 187 30) - (1 : Int32))).toInt ≤ 20; omega)
    have f6 : Fx (RS [20, 24, 29, 49]) m (uI (uI m 187 17 (0 : Int32)) 187 30 (((uI m 187 17 (0 : Int32)).1 187 30) - (1 : Int32))) := f5.i rfl
    have t8 := ti_mulc (c := 57) (y := (57 : Int32)) (x := ((m.1 187 30) - (1 : Int32))) rfl (by omega)
    refine (s_X12_bring_201 w6 (by show (0 : Int) ≤ (((57 : Int32) * ((m.1 187 30) - (1 : Int32)))).toInt; omega) (by show (((57 : Int32) * ((m.1 187 30) - (1 : Int32)))).toInt ≤ (1083 : Int); omega)).to ?_
    rintro _ m1 ⟨w_m1, g9, rfl⟩
    have f_m1 : Fx (RS [20, 24, 29, 49]) m m1 := f6.tr g9 (RS_sub rfl)
    have e10 : (m1.1 187 1).toInt = ((m.1 187 1)).toInt := congrArg _ (g9.at (a := 187) (k := 1) (by decide))
    have e11 : (m1.1 187 0).toInt = ((m.1 187 0)).toInt := congrArg _ (g9.at (a := 187) (k := 0) (by decide))
    refine ⟨rfl, ?_⟩
    have r12 := w_m1.at (a := 187) (k := 30) rfl
    exact ⟨w_m1, f_m1, _, rfl⟩
  · intro c13
    have r14 := w.at (a := 187) (k := 30) rfl
    have c15 : (m.1 187 30) = (0 : Int32) := c13
    have k16 := y_eqr (n := 0) rfl c15
    have w17 : WT (uI m 187 17 (0 : Int32)) := w.n rfl
    have f17 : Fx (RS [20, 24, 29, 49]) m (uI m 187 17 (0 : Int32)) := f.i rfl
    exact ⟨w17, f17, _, rfl⟩
set_option maxHeartbeats 4000000 in
theorem l_X12_judge {ad : Nat → Nat} {d : Nat} {m0 : Wm}  : ∀ n : Nat, (∀ (m : Wm) (x1 x2 x3 x4 x5 : Int32), WT m → Fx (RS [20, 22, 24, 26, 28, 30, 49]) m0 m → (0 : Int) ≤ x1.toInt → x1.toInt ≤ (3 : Int) → (0 : Int) ≤ x5.toInt → x5.toInt ≤ (3 : Int) → 4 - x5.toInt < (n : Int) → AW ad E0 μX12_judge (d + 171) (fun r m' => WT m' ∧ Fx (RS [20, 22, 24, 26, 28, 30, 49]) m0 m' ∧ ∃ v : Int32, r = some (.int v)) 40 [(0, .ref (ad 187)), (1, .int x1), (2, .int x2), (3, .int x3), (4, .int x4), (5, .int x5)] [] m) ∧ (∀ (m : Wm) (x3 x4 : Int32), WT m → Fx (RS [20, 22, 24, 26, 28, 30, 49]) m0 m → 0 * x3.toInt < (n : Int) → AW ad E0 μX12_judge (d + 171) (fun r m' => WT m' ∧ Fx (RS [20, 22, 24, 26, 28, 30, 49]) m0 m' ∧ ∃ v : Int32, r = some (.int v)) 138 [(0, .ref (ad 187)), (3, .int x3), (4, .int x4)] [] m) := by
  intro n
  induction n with
  | zero =>
    refine ⟨?_, ?_⟩ <;> intros <;> exfalso <;> omega
  | succ n ih =>
    refine ⟨?_, ?_⟩
    · intro m x1 x2 x3 x4 x5 w f j1 j2 j3 j4 hn
      refine g_X12_judge_40  ?_
      refine ⟨?_, ?_⟩
      · intro c1
        have k2 := z_le c1
        exact ih.2 _ _ _ w f (by show 0 * (x3).toInt < _; omega)
      · intro c3
        have k4 := z_nle c3
        refine ⟨?_, ?_⟩
        · intro c5
          have k6 := y_ner (n := -2) rfl c5
          exact ih.2 _ _ _ w f (by show 0 * (x3).toInt < _; omega)
        · intro c7
          have k8 := y_eqr (n := -2) rfl c7
          refine ⟨?_, ?_⟩
          · intro c9
            have t10 := t_and1023 (x2 >>> (((10 : Int32) * x5) &&& 31))
            have t11 := t_div (x := ((x2 >>> (((10 : Int32) * x5) &&& 31)) &&& (1023 : Int32))) (y := (100 : Int32)) (c := 100) rfl (by decide) (by decide) (by omega)
            have k12 := y_ltl (n := 2) rfl c9
            have t13 := ti_addc (x := x5) (y := (1 : Int32)) (c := 1) rfl (by omega)
            exact ih.1 _ _ _ _ _ _ w f (by show (0 : Int) ≤ (x1).toInt; omega) (by show (x1).toInt ≤ (3 : Int); omega) (by show (0 : Int) ≤ ((x5 + (1 : Int32))).toInt; omega) (by show ((x5 + (1 : Int32))).toInt ≤ (3 : Int); omega) (by show 4 - ((x5 + (1 : Int32))).toInt < _; omega)
          · intro c14
            have t15 := t_and1023 (x2 >>> (((10 : Int32) * x5) &&& 31))
            have t16 := t_div (x := ((x2 >>> (((10 : Int32) * x5) &&& 31)) &&& (1023 : Int32))) (y := (100 : Int32)) (c := 100) rfl (by decide) (by decide) (by omega)
            have k17 := y_nltl (n := 2) rfl c14
            refine (s_X12_areTwo w).to ?_
            rintro _ m1 ⟨w_m1, g18, v2, rfl, p20, p21, p19⟩
            have f_m1 : Fx (RS [20, 22, 24, 26, 28, 30, 49]) m0 m1 := f.tr g18 (RS_sub rfl)
            have p22 : (v2.toInt = 0 ∧ ((((((x2 >>> (((10 : Int32) * x5) &&& 31)) &&& (1023 : Int32)) / (10 : Int32)) - (((((x2 >>> (((10 : Int32) * x5) &&& 31)) &&& (1023 : Int32)) / (10 : Int32)) / (10 : Int32)) * (10 : Int32)))).toInt < 0 ∨ ((m.1 187 1)).toInt ≤ (((((x2 >>> (((10 : Int32) * x5) &&& 31)) &&& (1023 : Int32)) / (10 : Int32)) - (((((x2 >>> (((10 : Int32) * x5) &&& 31)) &&& (1023 : Int32)) / (10 : Int32)) / (10 : Int32)) * (10 : Int32)))).toInt ∨ ((((x2 >>> (((10 : Int32) * x5) &&& 31)) &&& (1023 : Int32)) - ((((x2 >>> (((10 : Int32) * x5) &&& 31)) &&& (1023 : Int32)) / (10 : Int32)) * (10 : Int32)))).toInt < 0 ∨ ((m.1 187 1)).toInt ≤ ((((x2 >>> (((10 : Int32) * x5) &&& 31)) &&& (1023 : Int32)) - ((((x2 >>> (((10 : Int32) * x5) &&& 31)) &&& (1023 : Int32)) / (10 : Int32)) * (10 : Int32)))).toInt ∨ (((((x2 >>> (((10 : Int32) * x5) &&& 31)) &&& (1023 : Int32)) / (10 : Int32)) - (((((x2 >>> (((10 : Int32) * x5) &&& 31)) &&& (1023 : Int32)) / (10 : Int32)) / (10 : Int32)) * (10 : Int32)))).toInt = ((((x2 >>> (((10 : Int32) * x5) &&& 31)) &&& (1023 : Int32)) - ((((x2 >>> (((10 : Int32) * x5) &&& 31)) &&& (1023 : Int32)) / (10 : Int32)) * (10 : Int32)))).toInt)) ∨ (v2.toInt = 1 ∧ 0 ≤ (((((x2 >>> (((10 : Int32) * x5) &&& 31)) &&& (1023 : Int32)) / (10 : Int32)) - (((((x2 >>> (((10 : Int32) * x5) &&& 31)) &&& (1023 : Int32)) / (10 : Int32)) / (10 : Int32)) * (10 : Int32)))).toInt ∧ (((((x2 >>> (((10 : Int32) * x5) &&& 31)) &&& (1023 : Int32)) / (10 : Int32)) - (((((x2 >>> (((10 : Int32) * x5) &&& 31)) &&& (1023 : Int32)) / (10 : Int32)) / (10 : Int32)) * (10 : Int32)))).toInt < ((m.1 187 1)).toInt ∧ 0 ≤ ((((x2 >>> (((10 : Int32) * x5) &&& 31)) &&& (1023 : Int32)) - ((((x2 >>> (((10 : Int32) * x5) &&& 31)) &&& (1023 : Int32)) / (10 : Int32)) * (10 : Int32)))).toInt ∧ ((((x2 >>> (((10 : Int32) * x5) &&& 31)) &&& (1023 : Int32)) - ((((x2 >>> (((10 : Int32) * x5) &&& 31)) &&& (1023 : Int32)) / (10 : Int32)) * (10 : Int32)))).toInt < ((m.1 187 1)).toInt ∧ (((((x2 >>> (((10 : Int32) * x5) &&& 31)) &&& (1023 : Int32)) / (10 : Int32)) - (((((x2 >>> (((10 : Int32) * x5) &&& 31)) &&& (1023 : Int32)) / (10 : Int32)) / (10 : Int32)) * (10 : Int32)))).toInt ≠ ((((x2 >>> (((10 : Int32) * x5) &&& 31)) &&& (1023 : Int32)) - ((((x2 >>> (((10 : Int32) * x5) &&& 31)) &&& (1023 : Int32)) / (10 : Int32)) * (10 : Int32)))).toInt) := p19
            clear p19
            have e23 : (m1.1 187 16).toInt = ((m.1 187 16)).toInt := congrArg _ (g18.at (a := 187) (k := 16) (by decide))
            have e24 : (m1.1 187 1).toInt = ((m.1 187 1)).toInt := congrArg _ (g18.at (a := 187) (k := 1) (by decide))
            have e25 : (m1.1 187 0).toInt = ((m.1 187 0)).toInt := congrArg _ (g18.at (a := 187) (k := 0) (by decide))
            refine ⟨v2, rfl, ?_⟩
            refine ⟨?_, ?_⟩
            · intro c26
              have k27 := y_eqr (n := 0) rfl c26
              have t28 := ti_addc (x := x5) (y := (1 : Int32)) (c := 1) rfl (by omega)
              exact ih.1 _ _ _ _ _ _ w_m1 f_m1 (by show (0 : Int) ≤ (x1).toInt; omega) (by show (x1).toInt ≤ (3 : Int); omega) (by show (0 : Int) ≤ ((x5 + (1 : Int32))).toInt; omega) (by show ((x5 + (1 : Int32))).toInt ≤ (3 : Int); omega) (by show 4 - ((x5 + (1 : Int32))).toInt < _; omega)
            · intro c29
              have k30 := y_ner (n := 0) rfl c29
              have r31 := w.at (a := 187) (k := 1) rfl
              refine ⟨?_, ?_⟩
              · intro c32
                have k33 := z_le c32
                refine (s_X12_goGame w_m1 (by show (0 : Int) ≤ (((((x2 >>> (((10 : Int32) * x5) &&& 31)) &&& (1023 : Int32)) / (10 : Int32)) - (((((x2 >>> (((10 : Int32) * x5) &&& 31)) &&& (1023 : Int32)) / (10 : Int32)) / (10 : Int32)) * (10 : Int32)))).toInt; omega) (by show (((((x2 >>> (((10 : Int32) * x5) &&& 31)) &&& (1023 : Int32)) / (10 : Int32)) - (((((x2 >>> (((10 : Int32) * x5) &&& 31)) &&& (1023 : Int32)) / (10 : Int32)) / (10 : Int32)) * (10 : Int32)))).toInt ≤ (7 : Int); omega) (by show (0 : Int) ≤ ((((x2 >>> (((10 : Int32) * x5) &&& 31)) &&& (1023 : Int32)) - ((((x2 >>> (((10 : Int32) * x5) &&& 31)) &&& (1023 : Int32)) / (10 : Int32)) * (10 : Int32)))).toInt; omega) (by show ((((x2 >>> (((10 : Int32) * x5) &&& 31)) &&& (1023 : Int32)) - ((((x2 >>> (((10 : Int32) * x5) &&& 31)) &&& (1023 : Int32)) / (10 : Int32)) * (10 : Int32)))).toInt ≤ (7 : Int); omega)).to ?_
                rintro _ m3 ⟨w_m3, g34, v4, rfl, p35, p36⟩
                have f_m3 : Fx (RS [20, 22, 24, 26, 28, 30, 49]) m0 m3 := f_m1.tr g34 (RS_sub rfl)
                have e37 : (m3.1 187 16).toInt = ((m1.1 187 16)).toInt := congrArg _ (g34.at (a := 187) (k := 16) (by decide))
                have e38 : (m3.1 187 1).toInt = ((m1.1 187 1)).toInt := congrArg _ (g34.at (a := 187) (k := 1) (by decide))
                have e39 : (m3.1 187 0).toInt = ((m1.1 187 0)).toInt := congrArg _ (g34.at (a := 187) (k := 0) (by decide))
                refine ⟨v4, rfl, ?_⟩
                have t40 := ti_addc (x := x5) (y := (1 : Int32)) (c := 1) rfl (by omega)
                exact ih.1 _ _ _ _ _ _ w_m3 f_m3 (by show (0 : Int) ≤ (x1).toInt; omega) (by show (x1).toInt ≤ (3 : Int); omega) (by show (0 : Int) ≤ ((x5 + (1 : Int32))).toInt; omega) (by show ((x5 + (1 : Int32))).toInt ≤ (3 : Int); omega) (by show 4 - ((x5 + (1 : Int32))).toInt < _; omega)
              · intro c41
                have k42 := z_nle c41
                have t43 := ti_addc (x := x5) (y := (1 : Int32)) (c := 1) rfl (by omega)
                exact ih.1 _ _ _ _ _ _ w_m1 f_m1 (by show (0 : Int) ≤ (x1).toInt; omega) (by show (x1).toInt ≤ (3 : Int); omega) (by show (0 : Int) ≤ ((x5 + (1 : Int32))).toInt; omega) (by show ((x5 + (1 : Int32))).toInt ≤ (3 : Int); omega) (by show 4 - ((x5 + (1 : Int32))).toInt < _; omega)
    · intro m x3 x4 w f  hn
      refine g_X12_judge_138  ?_
      refine (s_X12_sumOfAll w).to ?_
      rintro _ m1 ⟨w_m1, g1, v2, rfl⟩
      have f_m1 : Fx (RS [20, 22, 24, 26, 28, 30, 49]) m0 m1 := f.tr g1 (RS_sub rfl)
      have e2 : (m1.1 187 16).toInt = ((m.1 187 16)).toInt := congrArg _ (g1.at (a := 187) (k := 16) (by decide))
      have e3 : (m1.1 187 1).toInt = ((m.1 187 1)).toInt := congrArg _ (g1.at (a := 187) (k := 1) (by decide))
      have e4 : (m1.1 187 0).toInt = ((m.1 187 0)).toInt := congrArg _ (g1.at (a := 187) (k := 0) (by decide))
      refine ⟨v2, rfl, ?_⟩
      refine (s_X12_bring_202 w_m1 (by show (0 : Int) ≤ (0 : Int); omega) (by show (0 : Int) ≤ (0 : Int); omega)).to ?_
      rintro _ m3 ⟨w_m3, g5, rfl⟩
      have f_m3 : Fx (RS [20, 22, 24, 26, 28, 30, 49]) m0 m3 := f_m1.tr g5 (RS_sub rfl)
      have e6 : (m3.1 187 16).toInt = ((m1.1 187 16)).toInt := congrArg _ (g5.at (a := 187) (k := 16) (by decide))
      have e7 : (m3.1 187 1).toInt = ((m1.1 187 1)).toInt := congrArg _ (g5.at (a := 187) (k := 1) (by decide))
      have e8 : (m3.1 187 0).toInt = ((m1.1 187 0)).toInt := congrArg _ (g5.at (a := 187) (k := 0) (by decide))
      refine ⟨rfl, ?_⟩
      have w9 : WT (uI m3 187 16 (0 : Int32)) := w_m3.t rfl (by show (0 : Int) ≤ (0 : Int); omega) (by show (0 : Int) ≤ 16; omega)
      have f9 : Fx (RS [20, 22, 24, 26, 28, 30, 49]) m0 (uI m3 187 16 (0 : Int32)) := f_m3.i rfl
      refine (s_X12_tell w9 (by show (0 : Int) ≤ 15; omega)).to ?_
      rintro _ m4 ⟨w_m4, g10, rfl, p11⟩
      have f_m4 : Fx (RS [20, 22, 24, 26, 28, 30, 49]) m0 m4 := f9.tr g10 (RS_sub rfl)
      have p12 : (m4.1 187 16).toInt = (0 : Int) + 1 := p11
      clear p11
      have e13 : (m4.1 187 1).toInt = ((m3.1 187 1)).toInt := congrArg _ (g10.at (a := 187) (k := 1) (by decide))
      have e14 : (m4.1 187 0).toInt = ((m3.1 187 0)).toInt := congrArg _ (g10.at (a := 187) (k := 0) (by decide))
      refine ⟨rfl, ?_⟩
      exact ⟨w_m4, f_m4, _, rfl⟩
set_option maxHeartbeats 4000000 in
theorem s_X12_judge {ad : Nat → Nat} {d : Nat} {m : Wm} {x1 x2 : Int32} (w : WT m) : Ct ad μX12_judge (d + 171) [.ref (ad 187), .int x1, .int x2] m (fun r m' => WT m' ∧ Fx (RS [20, 22, 24, 26, 28, 30, 49]) m m' ∧ ∃ v : Int32, r = some (.int v)) := by
  have f : Fx (RS [20, 22, 24, 26, 28, 30, 49]) m m := Fx.rf
  refine v_X12_judge  ?_
  have w1 : WT (uI m 187 17 (0 : Int32)) := w.n rfl
  have f1 : Fx (RS [20, 22, 24, 26, 28, 30, 49]) m (uI m 187 17 (0 : Int32)) := f.i rfl
  refine (s_X12_in (x := x1) (lo := (0 : Int32)) (hi := (3 : Int32)) w1 rfl rfl).to ?_
  rintro _ m1 ⟨w_m1, g2, v2, rfl, p4, p5, p3⟩
  have f_m1 : Fx (RS [20, 22, 24, 26, 28, 30, 49]) m m1 := f1.tr g2 (RS_sub rfl)
  have p6 : (v2.toInt = 0 ∧ ((x1).toInt < (0 : Int) ∨ (3 : Int) < (x1).toInt)) ∨ (v2.toInt = 1 ∧ (0 : Int) ≤ (x1).toInt ∧ (x1).toInt ≤ (3 : Int)) := p3
  clear p3
  have e7 : (m1.1 187 16).toInt = ((m.1 187 16)).toInt := congrArg _ (g2.at (a := 187) (k := 16) (by decide))
  have e8 : (m1.1 187 1).toInt = ((m.1 187 1)).toInt := congrArg _ (g2.at (a := 187) (k := 1) (by decide))
  have e9 : (m1.1 187 0).toInt = ((m.1 187 0)).toInt := congrArg _ (g2.at (a := 187) (k := 0) (by decide))
  refine ⟨v2, rfl, ?_⟩
  refine ⟨?_, ?_⟩
  · intro c10
    have k11 := y_ner (n := 0) rfl c10
    refine (s_X12_lay_202 w_m1 (by show (0 : Int) ≤ (0 : Int); omega) (by show (0 : Int) ≤ (0 : Int); omega)).to ?_
    rintro _ m3 ⟨w_m3, g12, rfl⟩
    have f_m3 : Fx (RS [20, 22, 24, 26, 28, 30, 49]) m m3 := f_m1.tr g12 (RS_sub rfl)
    have e13 : (m3.1 187 16).toInt = ((m1.1 187 16)).toInt := congrArg _ (g12.at (a := 187) (k := 16) (by decide))
    have e14 : (m3.1 187 1).toInt = ((m1.1 187 1)).toInt := congrArg _ (g12.at (a := 187) (k := 1) (by decide))
    have e15 : (m3.1 187 0).toInt = ((m1.1 187 0)).toInt := congrArg _ (g12.at (a := 187) (k := 0) (by decide))
    refine ⟨rfl, ?_⟩
    refine (s_X12_sumOfAll w_m3).to ?_
    rintro _ m4 ⟨w_m4, g16, v5, rfl⟩
    have f_m4 : Fx (RS [20, 22, 24, 26, 28, 30, 49]) m m4 := f_m3.tr g16 (RS_sub rfl)
    have e17 : (m4.1 187 16).toInt = ((m3.1 187 16)).toInt := congrArg _ (g16.at (a := 187) (k := 16) (by decide))
    have e18 : (m4.1 187 1).toInt = ((m3.1 187 1)).toInt := congrArg _ (g16.at (a := 187) (k := 1) (by decide))
    have e19 : (m4.1 187 0).toInt = ((m3.1 187 0)).toInt := congrArg _ (g16.at (a := 187) (k := 0) (by decide))
    refine ⟨v5, rfl, ?_⟩
    exact (l_X12_judge (m0 := m) 1000000).1 _ _ _ _ _ _ w_m4 f_m4 (by show (0 : Int) ≤ (x1).toInt; omega) (by show (x1).toInt ≤ (3 : Int); omega) (by show (0 : Int) ≤ (0 : Int); omega) (by show (0 : Int) ≤ (3 : Int); omega) (by show 4 - (0 : Int) < _; omega)
  · intro c20
    have k21 := y_eqr (n := 0) rfl c20
    exact ⟨w_m1, f_m1, _, rfl⟩
set_option maxHeartbeats 4000000 in
theorem l_X12_goRounds {ad : Nat → Nat} {d : Nat} {m0 : Wm}  : ∀ n : Nat, (∀ (m : Wm) (x1 x2 x3 x4 x5 : Int32), WT m → Fx (RS [22, 24, 28, 29, 31, 49]) m0 m → (0 : Int) ≤ x1.toInt → x1.toInt ≤ (200 : Int) → (0 : Int) ≤ x5.toInt → x5.toInt ≤ (200 : Int) → (1 ≤ (m.1 187 11).toInt) → (200 - x5.toInt) * 1000 + 900 < (n : Int) → AW ad E0 μX12_goRounds (d + 171) (fun r m' => WT m' ∧ Fx (RS [22, 24, 28, 29, 31, 49]) m0 m' ∧ r = none) 13 [(0, .ref (ad 187)), (1, .int x1), (2, .int x2), (3, .int x3), (4, .int x4), (5, .int x5)] [] m) ∧ (∀ (m : Wm) (x1 x2 x3 x4 x5 x6 x7 : Int32), WT m → Fx (RS [22, 24, 28, 29, 31, 49]) m0 m → (0 : Int) ≤ x1.toInt → x1.toInt ≤ (200 : Int) → (0 : Int) ≤ x5.toInt → x5.toInt ≤ (199 : Int) → (0 : Int) ≤ x7.toInt → x7.toInt ≤ (40 : Int) → (1 ≤ (m.1 187 11).toInt) → (200 - x5.toInt) * 1000 + (40 - x7.toInt) * 4 + 3 < (n : Int) → AW ad E0 μX12_goRounds (d + 171) (fun r m' => WT m' ∧ Fx (RS [22, 24, 28, 29, 31, 49]) m0 m' ∧ r = none) 33 [(0, .ref (ad 187)), (1, .int x1), (2, .int x2), (3, .int x3), (4, .int x4), (5, .int x5), (6, .int x6), (7, .int x7)] [] m) ∧ (∀ (m : Wm) (x1 x2 x3 x4 x5 x6 x7 : Int32), WT m → Fx (RS [22, 24, 28, 29, 31, 49]) m0 m → (0 : Int) ≤ x1.toInt → x1.toInt ≤ (200 : Int) → (0 : Int) ≤ x5.toInt → x5.toInt ≤ (199 : Int) → (0 : Int) ≤ x7.toInt → x7.toInt ≤ (39 : Int) → (1 ≤ (m.1 187 11).toInt) → (200 - x5.toInt) * 1000 + (40 - x7.toInt) * 4 + 2 < (n : Int) → AW ad E0 μX12_goRounds (d + 171) (fun r m' => WT m' ∧ Fx (RS [22, 24, 28, 29, 31, 49]) m0 m' ∧ r = none) 69 [(0, .ref (ad 187)), (1, .int x1), (2, .int x2), (3, .int x3), (4, .int x4), (5, .int x5), (6, .int x6), (7, .int x7)] [] m) ∧ (∀ (m : Wm) (x1 x2 x3 x4 x5 x6 x7 s0 s1 : Int32), WT m → Fx (RS [22, 24, 28, 29, 31, 49]) m0 m → (0 : Int) ≤ x1.toInt → x1.toInt ≤ (200 : Int) → (0 : Int) ≤ x5.toInt → x5.toInt ≤ (199 : Int) → (0 : Int) ≤ x7.toInt → x7.toInt ≤ (39 : Int) → (1 ≤ (m.1 187 11).toInt) → (200 - x5.toInt) * 1000 + (40 - x7.toInt) * 4 + 1 < (n : Int) → AW ad E0 μX12_goRounds (d + 171) (fun r m' => WT m' ∧ Fx (RS [22, 24, 28, 29, 31, 49]) m0 m' ∧ r = none) 120 [(0, .ref (ad 187)), (1, .int x1), (2, .int x2), (3, .int x3), (4, .int x4), (5, .int x5), (6, .int x6), (7, .int x7)] [.int s0, .int s1, .ref (ad 187)] m) := by
  intro n
  induction n with
  | zero =>
    refine ⟨?_, ?_, ?_, ?_⟩ <;> intros <;> exfalso <;> omega
  | succ n ih =>
    refine ⟨?_, ?_, ?_, ?_⟩
    · intro m x1 x2 x3 x4 x5 w f j1 j2 j3 j4 j5 hn
      refine g_X12_goRounds_13  ?_
      refine ⟨?_, ?_⟩
      · intro c1
        have k2 := z_le c1
        exact ⟨w, f, rfl⟩
      · intro c3
        have k4 := z_nle c3
        refine ⟨?_, ?_⟩
        · have r5 := w.at (a := 187) (k := 11) rfl
          first | assumption | (show ¬ (m.1 187 11) = (0 : Int32); exact y_nn (n := 0) rfl (by omega))
        · have r6 := w.at (a := 187) (k := 11) rfl
          exact ih.2.1 _ _ _ _ _ _ _ _ w f (by show (0 : Int) ≤ (x1).toInt; omega) (by show (x1).toInt ≤ (200 : Int); omega) (by show (0 : Int) ≤ (x5).toInt; omega) (by show (x5).toInt ≤ (199 : Int); omega) (by show (0 : Int) ≤ (0 : Int); omega) (by show (0 : Int) ≤ (40 : Int); omega) (by show 1 ≤ ((m.1 187 11)).toInt; omega) (by show (200 - (x5).toInt) * 1000 + (40 - (0 : Int)) * 4 + 3 < _; omega)
    · intro m x1 x2 x3 x4 x5 x6 x7 w f j1 j2 j3 j4 j5 j6 j7 hn
      refine g_X12_goRounds_33  ?_
      refine ⟨?_, ?_⟩
      · intro c1
        have r2 := w.at (a := 187) (k := 10) rfl
        have k3 := z_le c1
        have t4 := ti_addc (x := x5) (y := (1 : Int32)) (c := 1) rfl (by omega)
        have r5 := w.at (a := 187) (k := 11) rfl
        exact ih.1 _ _ _ _ _ _ w f (by show (0 : Int) ≤ (x1).toInt; omega) (by show (x1).toInt ≤ (200 : Int); omega) (by show (0 : Int) ≤ ((x5 + (1 : Int32))).toInt; omega) (by show ((x5 + (1 : Int32))).toInt ≤ (200 : Int); omega) (by show 1 ≤ ((m.1 187 11)).toInt; omega) (by show (200 - ((x5 + (1 : Int32))).toInt) * 1000 + 900 < _; omega)
      · intro c6
        have r7 := w.at (a := 187) (k := 10) rfl
        have k8 := z_nle c6
        refine ⟨?_, ?_⟩
        · have t9 := ti_mulc (c := 4) (y := (4 : Int32)) (x := x7) rfl (by omega)
          have t10 := ti_addc (x := ((4 : Int32) * x7)) (y := (3 : Int32)) (c := 3) rfl (by omega)
          exact vpi (by omega) (by omega)
        · refine ⟨?_, ?_⟩
          · intro c11
            have k12 := z_eq c11
            refine ⟨?_, ?_⟩
            · intro c13
              have k14 := y_eqr (n := 0) rfl c13
              have r15 := w.at (a := 187) (k := 11) rfl
              exact ih.2.2.1 _ _ _ _ _ _ _ _ w f (by show (0 : Int) ≤ (x1).toInt; omega) (by show (x1).toInt ≤ (200 : Int); omega) (by show (0 : Int) ≤ (x5).toInt; omega) (by show (x5).toInt ≤ (199 : Int); omega) (by show (0 : Int) ≤ (x7).toInt; omega) (by show (x7).toInt ≤ (39 : Int); omega) (by show 1 ≤ ((m.1 187 11)).toInt; omega) (by show (200 - (x5).toInt) * 1000 + (40 - (x7).toInt) * 4 + 2 < _; omega)
            · intro c16
              have k17 := y_ner (n := 0) rfl c16
              refine (s_X12_remember w).to ?_
              rintro _ m1 ⟨w_m1, g18, rfl⟩
              have f_m1 : Fx (RS [22, 24, 28, 29, 31, 49]) m0 m1 := f.tr g18 (RS_sub rfl)
              have e19 : (m1.1 187 11).toInt = ((m.1 187 11)).toInt := congrArg _ (g18.at (a := 187) (k := 11) (by decide))
              have e20 : (m1.1 187 10).toInt = ((m.1 187 10)).toInt := congrArg _ (g18.at (a := 187) (k := 10) (by decide))
              have e21 : (m1.1 187 1).toInt = ((m.1 187 1)).toInt := congrArg _ (g18.at (a := 187) (k := 1) (by decide))
              have e22 : (m1.1 187 0).toInt = ((m.1 187 0)).toInt := congrArg _ (g18.at (a := 187) (k := 0) (by decide))
              refine ⟨rfl, ?_⟩
              have r23 := w_m1.at (a := 187) (k := 11) rfl
              exact ih.2.2.1 _ _ _ _ _ _ _ _ w_m1 f_m1 (by show (0 : Int) ≤ (x1).toInt; omega) (by show (x1).toInt ≤ (200 : Int); omega) (by show (0 : Int) ≤ (x5).toInt; omega) (by show (x5).toInt ≤ (199 : Int); omega) (by show (0 : Int) ≤ (x7).toInt; omega) (by show (x7).toInt ≤ (39 : Int); omega) (by show 1 ≤ ((m1.1 187 11)).toInt; omega) (by show (200 - (x5).toInt) * 1000 + (40 - (x7).toInt) * 4 + 2 < _; omega)
          · intro c24
            have k25 := z_ne c24
            have t26 := ti_addc (x := x7) (y := (1 : Int32)) (c := 1) rfl (by omega)
            have r27 := w.at (a := 187) (k := 11) rfl
            exact ih.2.1 _ _ _ _ _ _ _ _ w f (by show (0 : Int) ≤ (x1).toInt; omega) (by show (x1).toInt ≤ (200 : Int); omega) (by show (0 : Int) ≤ (x5).toInt; omega) (by show (x5).toInt ≤ (199 : Int); omega) (by show (0 : Int) ≤ ((x7 + (1 : Int32))).toInt; omega) (by show ((x7 + (1 : Int32))).toInt ≤ (40 : Int); omega) (by show 1 ≤ ((m.1 187 11)).toInt; omega) (by show (200 - (x5).toInt) * 1000 + (40 - ((x7 + (1 : Int32))).toInt) * 4 + 3 < _; omega)
    · intro m x1 x2 x3 x4 x5 x6 x7 w f j1 j2 j3 j4 j5 j6 j7 hn
      refine g_X12_goRounds_69  ?_
      refine ⟨?_, ?_⟩
      · have t1 := ti_mulc (c := 4) (y := (4 : Int32)) (x := x7) rfl (by omega)
        exact vpi (by omega) (by omega)
      · refine ⟨?_, ?_⟩
        · have t2 := ti_mulc (c := 4) (y := (4 : Int32)) (x := x7) rfl (by omega)
          have t3 := ti_addc (x := ((4 : Int32) * x7)) (y := (1 : Int32)) (c := 1) rfl (by omega)
          exact vpi (by omega) (by omega)
        · refine ⟨?_, ?_⟩
          · have t4 := ti_mulc (c := 4) (y := (4 : Int32)) (x := x7) rfl (by omega)
            have t5 := ti_addc (x := ((4 : Int32) * x7)) (y := (2 : Int32)) (c := 2) rfl (by omega)
            exact vpi (by omega) (by omega)
          · have r6 := w.p40 (x := x7) ⟨by omega, by omega⟩
            have r7 := w.p41 (x := x7) ⟨by omega, by omega⟩
            refine (s_X12_goGame w (by show (0 : Int) ≤ ((m.1 194 (((4 : Int32) * x7).toNatClampNeg))).toInt; omega) (by show ((m.1 194 (((4 : Int32) * x7).toNatClampNeg))).toInt ≤ (7 : Int); omega) (by show (0 : Int) ≤ ((m.1 194 ((((4 : Int32) * x7) + (1 : Int32)).toNatClampNeg))).toInt; omega) (by show ((m.1 194 ((((4 : Int32) * x7) + (1 : Int32)).toNatClampNeg))).toInt ≤ (7 : Int); omega)).to ?_
            rintro _ m1 ⟨w_m1, g8, v2, rfl, p9, p10⟩
            have f_m1 : Fx (RS [22, 24, 28, 29, 31, 49]) m0 m1 := f.tr g8 (RS_sub rfl)
            have e11 : (m1.1 187 11).toInt = ((m.1 187 11)).toInt := congrArg _ (g8.at (a := 187) (k := 11) (by decide))
            have e12 : (m1.1 187 10).toInt = ((m.1 187 10)).toInt := congrArg _ (g8.at (a := 187) (k := 10) (by decide))
            have e13 : (m1.1 187 1).toInt = ((m.1 187 1)).toInt := congrArg _ (g8.at (a := 187) (k := 1) (by decide))
            have e14 : (m1.1 187 0).toInt = ((m.1 187 0)).toInt := congrArg _ (g8.at (a := 187) (k := 0) (by decide))
            refine ⟨v2, rfl, ?_⟩
            refine ⟨?_, ?_⟩
            · intro c15
              have k16 := y_ner (n := 2) rfl c15
              have r17 := w_m1.at (a := 187) (k := 11) rfl
              exact ih.2.2.2 _ _ _ _ _ _ _ _ _ _ w_m1 f_m1 (by show (0 : Int) ≤ (x1).toInt; omega) (by show (x1).toInt ≤ (200 : Int); omega) (by show (0 : Int) ≤ (x5).toInt; omega) (by show (x5).toInt ≤ (199 : Int); omega) (by show (0 : Int) ≤ (x7).toInt; omega) (by show (x7).toInt ≤ (39 : Int); omega) (by show 1 ≤ ((m1.1 187 11)).toInt; omega) (by show (200 - (x5).toInt) * 1000 + (40 - (x7).toInt) * 4 + 1 < _; omega)
            · intro c18
              have k19 := y_eqr (n := 2) rfl c18
              have r20 := w_m1.at (a := 187) (k := 11) rfl
              exact ih.2.2.2 _ _ _ _ _ _ _ _ _ _ w_m1 f_m1 (by show (0 : Int) ≤ (x1).toInt; omega) (by show (x1).toInt ≤ (200 : Int); omega) (by show (0 : Int) ≤ (x5).toInt; omega) (by show (x5).toInt ≤ (199 : Int); omega) (by show (0 : Int) ≤ (x7).toInt; omega) (by show (x7).toInt ≤ (39 : Int); omega) (by show 1 ≤ ((m1.1 187 11)).toInt; omega) (by show (200 - (x5).toInt) * 1000 + (40 - (x7).toInt) * 4 + 1 < _; omega)
    · intro m x1 x2 x3 x4 x5 x6 x7 s0 s1 w f j1 j2 j3 j4 j5 j6 j7 hn
      refine g_X12_goRounds_120  ?_
      have w1 : WT (uI m 187 33 (s1 + s0)) := w.n rfl
      have f1 : Fx (RS [22, 24, 28, 29, 31, 49]) m0 (uI m 187 33 (s1 + s0)) := f.i rfl
      have w2 : WT (uI (uI m 187 33 (s1 + s0)) 187 32 (((uI m 187 33 (s1 + s0)).1 187 32) + (1 : Int32))) := w1.n rfl
      have f2 : Fx (RS [22, 24, 28, 29, 31, 49]) m0 (uI (uI m 187 33 (s1 + s0)) 187 32 (((uI m 187 33 (s1 + s0)).1 187 32) + (1 : Int32))) := f1.i rfl
      have t3 := ti_addc (x := x7) (y := (1 : Int32)) (c := 1) rfl (by omega)
      have r4 := w.at (a := 187) (k := 11) rfl
      exact ih.2.1 _ _ _ _ _ _ _ _ w2 f2 (by show (0 : Int) ≤ (x1).toInt; omega) (by show (x1).toInt ≤ (200 : Int); omega) (by show (0 : Int) ≤ (x5).toInt; omega) (by show (x5).toInt ≤ (199 : Int); omega) (by show (0 : Int) ≤ ((x7 + (1 : Int32))).toInt; omega) (by show ((x7 + (1 : Int32))).toInt ≤ (40 : Int); omega) (by show 1 ≤ ((m.1 187 11)).toInt; omega) (by show (200 - (x5).toInt) * 1000 + (40 - ((x7 + (1 : Int32))).toInt) * 4 + 3 < _; omega)
set_option maxHeartbeats 4000000 in
theorem s_X12_goRounds {ad : Nat → Nat} {d : Nat} {m : Wm} {x1 x2 x3 x4 : Int32} (w : WT m) (i1 : (0 : Int) ≤ x1.toInt) (i2 : x1.toInt ≤ (200 : Int)) (i3 : 1 ≤ (m.1 187 11).toInt) : Ct ad μX12_goRounds (d + 171) [.ref (ad 187), .int x1, .int x2, .int x3, .int x4] m (fun r m' => WT m' ∧ Fx (RS [22, 24, 28, 29, 31, 49]) m m' ∧ r = none) := by
  have f : Fx (RS [22, 24, 28, 29, 31, 49]) m m := Fx.rf
  refine v_X12_goRounds  ?_
  have w1 : WT (uI m 187 32 (0 : Int32)) := w.n rfl
  have f1 : Fx (RS [22, 24, 28, 29, 31, 49]) m (uI m 187 32 (0 : Int32)) := f.i rfl
  have w2 : WT (uI (uI m 187 32 (0 : Int32)) 187 33 (0 : Int32)) := w1.n rfl
  have f2 : Fx (RS [22, 24, 28, 29, 31, 49]) m (uI (uI m 187 32 (0 : Int32)) 187 33 (0 : Int32)) := f1.i rfl
  have r3 := w.at (a := 187) (k := 11) rfl
  exact (l_X12_goRounds (m0 := m) 1000000).1 _ _ _ _ _ _ w2 f2 (by show (0 : Int) ≤ (x1).toInt; omega) (by show (x1).toInt ≤ (200 : Int); omega) (by show (0 : Int) ≤ (0 : Int); omega) (by show (0 : Int) ≤ (200 : Int); omega) (by show 1 ≤ ((m.1 187 11)).toInt; omega) (by show (200 - (0 : Int)) * 1000 + 900 < _; omega)
set_option maxHeartbeats 4000000 in
theorem s_X12_rounds {ad : Nat → Nat} {d : Nat} {m : Wm} {x1 : Int32} (w : WT m) : Ct ad μX12_rounds (d + 172) [.ref (ad 187), .int x1] m (fun r m' => WT m' ∧ Fx (RS [20, 22, 24, 26, 28, 29, 31, 49, 52]) m m' ∧ ∃ v : Int32, r = some (.int v) ∧ ((m'.1 187 11).toInt = (m.1 187 11).toInt) ∧ ((m'.1 187 10).toInt = (m.1 187 10).toInt)) := by
  have f : Fx (RS [20, 22, 24, 26, 28, 29, 31, 49, 52]) m m := Fx.rf
  refine v_X12_rounds  ?_
  have w1 : WT (uI m 187 17 (0 : Int32)) := w.n rfl
  have f1 : Fx (RS [20, 22, 24, 26, 28, 29, 31, 49, 52]) m (uI m 187 17 (0 : Int32)) := f.i rfl
  refine (s_X12_in (x := x1) (lo := (0 : Int32)) (hi := (200 : Int32)) w1 rfl rfl).to ?_
  rintro _ m1 ⟨w_m1, g2, v2, rfl, p4, p5, p3⟩
  have f_m1 : Fx (RS [20, 22, 24, 26, 28, 29, 31, 49, 52]) m m1 := f1.tr g2 (RS_sub rfl)
  have p6 : (v2.toInt = 0 ∧ ((x1).toInt < (0 : Int) ∨ (200 : Int) < (x1).toInt)) ∨ (v2.toInt = 1 ∧ (0 : Int) ≤ (x1).toInt ∧ (x1).toInt ≤ (200 : Int)) := p3
  clear p3
  have e7 : (m1.1 187 11).toInt = ((m.1 187 11)).toInt := congrArg _ (g2.at (a := 187) (k := 11) (by decide))
  have e8 : (m1.1 187 10).toInt = ((m.1 187 10)).toInt := congrArg _ (g2.at (a := 187) (k := 10) (by decide))
  have e9 : (m1.1 187 16).toInt = ((m.1 187 16)).toInt := congrArg _ (g2.at (a := 187) (k := 16) (by decide))
  have e10 : (m1.1 187 1).toInt = ((m.1 187 1)).toInt := congrArg _ (g2.at (a := 187) (k := 1) (by decide))
  have e11 : (m1.1 187 0).toInt = ((m.1 187 0)).toInt := congrArg _ (g2.at (a := 187) (k := 0) (by decide))
  refine ⟨v2, rfl, ?_⟩
  refine ⟨?_, ?_⟩
  · intro c12
    have k13 := y_eqr (n := 0) rfl c12
    have r14 := w_m1.at (a := 187) (k := 11) rfl
    have r15 := w_m1.at (a := 187) (k := 10) rfl
    exact ⟨w_m1, f_m1, _, rfl, (by show ((m1.1 187 11)).toInt = (m.1 187 11).toInt; omega), (by show ((m1.1 187 10)).toInt = (m.1 187 10).toInt; omega)⟩
  · intro c16
    have k17 := y_ner (n := 0) rfl c16
    refine ⟨?_, ?_⟩
    · intro c18
      have r19 := w_m1.at (a := 187) (k := 11) rfl
      have k20 := y_ner (n := 0) rfl c18
      refine (s_X12_goRounds w_m1 (by show (0 : Int) ≤ (x1).toInt; omega) (by show (x1).toInt ≤ (200 : Int); omega) (by show 1 ≤ ((m1.1 187 11)).toInt; omega)).to ?_
      rintro _ m3 ⟨w_m3, g21, rfl⟩
      have f_m3 : Fx (RS [20, 22, 24, 26, 28, 29, 31, 49, 52]) m m3 := f_m1.tr g21 (RS_sub rfl)
      have e22 : (m3.1 187 11).toInt = ((m1.1 187 11)).toInt := congrArg _ (g21.at (a := 187) (k := 11) (by decide))
      have e23 : (m3.1 187 10).toInt = ((m1.1 187 10)).toInt := congrArg _ (g21.at (a := 187) (k := 10) (by decide))
      have e24 : (m3.1 187 16).toInt = ((m1.1 187 16)).toInt := congrArg _ (g21.at (a := 187) (k := 16) (by decide))
      have e25 : (m3.1 187 1).toInt = ((m1.1 187 1)).toInt := congrArg _ (g21.at (a := 187) (k := 1) (by decide))
      have e26 : (m3.1 187 0).toInt = ((m1.1 187 0)).toInt := congrArg _ (g21.at (a := 187) (k := 0) (by decide))
      refine ⟨rfl, ?_⟩
      refine ⟨?_, ?_⟩
      · have r27 := w_m3.at (a := 187) (k := 11) rfl
        first | assumption | (show ¬ (m3.1 187 11) = (0 : Int32); exact y_nn (n := 0) rfl (by omega))
      · have w28 : WT (uI m3 187 12 (((m3.1 187 12) + x1) - ((((m3.1 187 12) + x1) / (m3.1 187 11)) * (m3.1 187 11)))) := w_m3.n rfl
        have f28 : Fx (RS [20, 22, 24, 26, 28, 29, 31, 49, 52]) m (uI m3 187 12 (((m3.1 187 12) + x1) - ((((m3.1 187 12) + x1) / (m3.1 187 11)) * (m3.1 187 11)))) := f_m3.i rfl
        have w29 : WT (uI (uI m3 187 12 (((m3.1 187 12) + x1) - ((((m3.1 187 12) + x1) / (m3.1 187 11)) * (m3.1 187 11)))) 187 16 (0 : Int32)) := w28.t rfl (by show (0 : Int) ≤ (0 : Int); omega) (by show (0 : Int) ≤ 16; omega)
        have f29 : Fx (RS [20, 22, 24, 26, 28, 29, 31, 49, 52]) m (uI (uI m3 187 12 (((m3.1 187 12) + x1) - ((((m3.1 187 12) + x1) / (m3.1 187 11)) * (m3.1 187 11)))) 187 16 (0 : Int32)) := f28.i rfl
        refine (s_X12_tell w29 (by show (0 : Int) ≤ 15; omega)).to ?_
        rintro _ m4 ⟨w_m4, g30, rfl, p31⟩
        have f_m4 : Fx (RS [20, 22, 24, 26, 28, 29, 31, 49, 52]) m m4 := f29.tr g30 (RS_sub rfl)
        have p32 : (m4.1 187 16).toInt = (0 : Int) + 1 := p31
        clear p31
        have e33 : (m4.1 187 11).toInt = ((m3.1 187 11)).toInt := congrArg _ (g30.at (a := 187) (k := 11) (by decide))
        have e34 : (m4.1 187 10).toInt = ((m3.1 187 10)).toInt := congrArg _ (g30.at (a := 187) (k := 10) (by decide))
        have e35 : (m4.1 187 1).toInt = ((m3.1 187 1)).toInt := congrArg _ (g30.at (a := 187) (k := 1) (by decide))
        have e36 : (m4.1 187 0).toInt = ((m3.1 187 0)).toInt := congrArg _ (g30.at (a := 187) (k := 0) (by decide))
        refine ⟨rfl, ?_⟩
        refine (s_X12_sumOfAll w_m4).to ?_
        rintro _ m5 ⟨w_m5, g37, v6, rfl⟩
        have f_m5 : Fx (RS [20, 22, 24, 26, 28, 29, 31, 49, 52]) m m5 := f_m4.tr g37 (RS_sub rfl)
        have e38 : (m5.1 187 11).toInt = ((m4.1 187 11)).toInt := congrArg _ (g37.at (a := 187) (k := 11) (by decide))
        have e39 : (m5.1 187 10).toInt = ((m4.1 187 10)).toInt := congrArg _ (g37.at (a := 187) (k := 10) (by decide))
        have e40 : (m5.1 187 16).toInt = ((m4.1 187 16)).toInt := congrArg _ (g37.at (a := 187) (k := 16) (by decide))
        have e41 : (m5.1 187 1).toInt = ((m4.1 187 1)).toInt := congrArg _ (g37.at (a := 187) (k := 1) (by decide))
        have e42 : (m5.1 187 0).toInt = ((m4.1 187 0)).toInt := congrArg _ (g37.at (a := 187) (k := 0) (by decide))
        refine ⟨v6, rfl, ?_⟩
        have r43 := w_m5.at (a := 187) (k := 16) rfl
        refine (s_X12_tell w_m5 (by show ((m5.1 187 16)).toInt ≤ 15; omega)).to ?_
        rintro _ m7 ⟨w_m7, g44, rfl, p45⟩
        have f_m7 : Fx (RS [20, 22, 24, 26, 28, 29, 31, 49, 52]) m m7 := f_m5.tr g44 (RS_sub rfl)
        have p46 : (m7.1 187 16).toInt = ((m5.1 187 16)).toInt + 1 := p45
        clear p45
        have e47 : (m7.1 187 11).toInt = ((m5.1 187 11)).toInt := congrArg _ (g44.at (a := 187) (k := 11) (by decide))
        have e48 : (m7.1 187 10).toInt = ((m5.1 187 10)).toInt := congrArg _ (g44.at (a := 187) (k := 10) (by decide))
        have e49 : (m7.1 187 1).toInt = ((m5.1 187 1)).toInt := congrArg _ (g44.at (a := 187) (k := 1) (by decide))
        have e50 : (m7.1 187 0).toInt = ((m5.1 187 0)).toInt := congrArg _ (g44.at (a := 187) (k := 0) (by decide))
        refine ⟨rfl, ?_⟩
        have r51 := w_m7.at (a := 187) (k := 11) rfl
        have r52 := w_m7.at (a := 187) (k := 10) rfl
        exact ⟨w_m7, f_m7, _, rfl, (by show ((m7.1 187 11)).toInt = (m.1 187 11).toInt; omega), (by show ((m7.1 187 10)).toInt = (m.1 187 10).toInt; omega)⟩
    · intro c53
      have r54 := w_m1.at (a := 187) (k := 11) rfl
      have k55 := y_eqr (n := 0) rfl c53
      have r56 := w_m1.at (a := 187) (k := 10) rfl
      exact ⟨w_m1, f_m1, _, rfl, (by show ((m1.1 187 11)).toInt = (m.1 187 11).toInt; omega), (by show ((m1.1 187 10)).toInt = (m.1 187 10).toInt; omega)⟩
set_option maxHeartbeats 4000000 in
theorem l_X12_spreadNow {ad : Nat → Nat} {d : Nat} {m0 : Wm}  : ∀ n : Nat, (∀ (m : Wm) (x1 x2 x3 : Int32), WT m → Fx (RS [22, 28, 33]) m0 m → (0 : Int) ≤ x3.toInt → x3.toInt ≤ (8 : Int) → (8 - x3.toInt) * 2 + 1 < (n : Int) → AW ad E0 μX12_spreadNow (d + 169) (fun r m' => WT m' ∧ Fx (RS [22, 28, 33]) m0 m' ∧ ∃ v : Int32, r = some (.int v)) 29 [(0, .ref (ad 187)), (1, .int x1), (2, .int x2), (3, .int x3)] [] m) ∧ (∀ (m : Wm) (x1 x2 x3 x4 : Int32), WT m → Fx (RS [22, 28, 33]) m0 m → (0 : Int) ≤ x3.toInt → x3.toInt ≤ (7 : Int) → (8 - x3.toInt) * 2 < (n : Int) → AW ad E0 μX12_spreadNow (d + 169) (fun r m' => WT m' ∧ Fx (RS [22, 28, 33]) m0 m' ∧ ∃ v : Int32, r = some (.int v)) 58 [(0, .ref (ad 187)), (1, .int x1), (2, .int x2), (3, .int x3), (4, .int x4)] [] m) := by
  intro n
  induction n with
  | zero =>
    refine ⟨?_, ?_⟩ <;> intros <;> exfalso <;> omega
  | succ n ih =>
    refine ⟨?_, ?_⟩
    · intro m x1 x2 x3 w f j1 j2 hn
      refine g_X12_spreadNow_29  ?_
      refine ⟨?_, ?_⟩
      · intro c1
        have r2 := w.at (a := 187) (k := 1) rfl
        have k3 := z_le c1
        exact ⟨w, f, _, rfl⟩
      · intro c4
        have r5 := w.at (a := 187) (k := 1) rfl
        have k6 := z_nle c4
        refine (s_X12_power w (by show (0 : Int) ≤ (x3).toInt; omega) (by show (x3).toInt ≤ (7 : Int); omega)).to ?_
        rintro _ m1 ⟨w_m1, g7, v2, rfl⟩
        have f_m1 : Fx (RS [22, 28, 33]) m0 m1 := f.tr g7 (RS_sub rfl)
        have e8 : (m1.1 187 1).toInt = ((m.1 187 1)).toInt := congrArg _ (g7.at (a := 187) (k := 1) (by decide))
        have e9 : (m1.1 187 0).toInt = ((m.1 187 0)).toInt := congrArg _ (g7.at (a := 187) (k := 0) (by decide))
        refine ⟨v2, rfl, ?_⟩
        refine ⟨?_, ?_⟩
        · intro c10
          have k11 := z_le c10
          exact ih.2 _ _ _ _ _ w_m1 f_m1 (by show (0 : Int) ≤ (x3).toInt; omega) (by show (x3).toInt ≤ (7 : Int); omega) (by show (8 - (x3).toInt) * 2 < _; omega)
        · intro c12
          have k13 := z_nle c12
          have w14 : WT (uI m1 187 34 x3) := w_m1.n rfl
          have f14 : Fx (RS [22, 28, 33]) m0 (uI m1 187 34 x3) := f_m1.i rfl
          exact ih.2 _ _ _ _ _ w14 f14 (by show (0 : Int) ≤ (x3).toInt; omega) (by show (x3).toInt ≤ (7 : Int); omega) (by show (8 - (x3).toInt) * 2 < _; omega)
    · intro m x1 x2 x3 x4 w f j1 j2 hn
      refine g_X12_spreadNow_58  ?_
      refine ⟨?_, ?_⟩
      · intro c1
        have k2 := z_le c1
        have t3 := ti_addc (x := x3) (y := (1 : Int32)) (c := 1) rfl (by omega)
        exact ih.1 _ _ _ _ w f (by show (0 : Int) ≤ ((x3 + (1 : Int32))).toInt; omega) (by show ((x3 + (1 : Int32))).toInt ≤ (8 : Int); omega) (by show (8 - ((x3 + (1 : Int32))).toInt) * 2 + 1 < _; omega)
      · intro c4
        have k5 := z_nle c4
        have w6 : WT (uI m 187 35 x3) := w.n rfl
        have f6 : Fx (RS [22, 28, 33]) m0 (uI m 187 35 x3) := f.i rfl
        have t7 := ti_addc (x := x3) (y := (1 : Int32)) (c := 1) rfl (by omega)
        exact ih.1 _ _ _ _ w6 f6 (by show (0 : Int) ≤ ((x3 + (1 : Int32))).toInt; omega) (by show ((x3 + (1 : Int32))).toInt ≤ (8 : Int); omega) (by show (8 - ((x3 + (1 : Int32))).toInt) * 2 + 1 < _; omega)
set_option maxHeartbeats 4000000 in
theorem s_X12_spreadNow {ad : Nat → Nat} {d : Nat} {m : Wm} (w : WT m) : Ct ad μX12_spreadNow (d + 169) [.ref (ad 187)] m (fun r m' => WT m' ∧ Fx (RS [22, 28, 33]) m m' ∧ ∃ v : Int32, r = some (.int v)) := by
  have f : Fx (RS [22, 28, 33]) m m := Fx.rf
  refine v_X12_spreadNow  ?_
  refine ⟨?_, ?_⟩
  · intro c1
    have r2 := w.at (a := 187) (k := 1) rfl
    have c3 : ¬ (m.1 187 1) = (0 : Int32) := c1
    have k4 := y_ner (n := 0) rfl c3
    have w5 : WT (uI m 187 34 (0 : Int32)) := w.n rfl
    have f5 : Fx (RS [22, 28, 33]) m (uI m 187 34 (0 : Int32)) := f.i rfl
    have w6 : WT (uI (uI m 187 34 (0 : Int32)) 187 35 (0 : Int32)) := w5.n rfl
    have f6 : Fx (RS [22, 28, 33]) m (uI (uI m 187 34 (0 : Int32)) 187 35 (0 : Int32)) := f5.i rfl
    refine (s_X12_power w6 (by show (0 : Int) ≤ (0 : Int); omega) (by show (0 : Int) ≤ (7 : Int); omega)).to ?_
    rintro _ m1 ⟨w_m1, g7, v2, rfl⟩
    have f_m1 : Fx (RS [22, 28, 33]) m m1 := f6.tr g7 (RS_sub rfl)
    have e8 : (m1.1 187 1).toInt = ((m.1 187 1)).toInt := congrArg _ (g7.at (a := 187) (k := 1) (by decide))
    have e9 : (m1.1 187 0).toInt = ((m.1 187 0)).toInt := congrArg _ (g7.at (a := 187) (k := 0) (by decide))
    refine ⟨v2, rfl, ?_⟩
    exact (l_X12_spreadNow (m0 := m) 1000000).1 _ _ _ _ w_m1 f_m1 (by show (0 : Int) ≤ (1 : Int); omega) (by show (1 : Int) ≤ (8 : Int); omega) (by show (8 - (1 : Int)) * 2 + 1 < _; omega)
  · intro c10
    have r11 := w.at (a := 187) (k := 1) rfl
    have c12 : (m.1 187 1) = (0 : Int32) := c10
    have k13 := y_eqr (n := 0) rfl c12
    have w14 : WT (uI m 187 34 (0 : Int32)) := w.n rfl
    have f14 : Fx (RS [22, 28, 33]) m (uI m 187 34 (0 : Int32)) := f.i rfl
    have w15 : WT (uI (uI m 187 34 (0 : Int32)) 187 35 (0 : Int32)) := w14.n rfl
    have f15 : Fx (RS [22, 28, 33]) m (uI (uI m 187 34 (0 : Int32)) 187 35 (0 : Int32)) := f14.i rfl
    exact ⟨w15, f15, _, rfl⟩
set_option maxHeartbeats 4000000 in
theorem s_X12_spread {ad : Nat → Nat} {d : Nat} {m : Wm} (w : WT m) : Ct ad μX12_spread (d + 170) [.ref (ad 187)] m (fun r m' => WT m' ∧ Fx (RS [20, 22, 26, 28, 33]) m m' ∧ ∃ v : Int32, r = some (.int v)) := by
  have f : Fx (RS [20, 22, 26, 28, 33]) m m := Fx.rf
  refine v_X12_spread  ?_
  have w1 : WT (uI m 187 17 (0 : Int32)) := w.n rfl
  have f1 : Fx (RS [20, 22, 26, 28, 33]) m (uI m 187 17 (0 : Int32)) := f.i rfl
  refine (s_X12_spreadNow w1).to ?_
  rintro _ m1 ⟨w_m1, g2, v2, rfl⟩
  have f_m1 : Fx (RS [20, 22, 26, 28, 33]) m m1 := f1.tr g2 (RS_sub rfl)
  have e3 : (m1.1 187 16).toInt = ((m.1 187 16)).toInt := congrArg _ (g2.at (a := 187) (k := 16) (by decide))
  have e4 : (m1.1 187 1).toInt = ((m.1 187 1)).toInt := congrArg _ (g2.at (a := 187) (k := 1) (by decide))
  have e5 : (m1.1 187 0).toInt = ((m.1 187 0)).toInt := congrArg _ (g2.at (a := 187) (k := 0) (by decide))
  refine ⟨v2, rfl, ?_⟩
  refine ⟨?_, ?_⟩
  · intro c6
    have r7 := w_m1.at (a := 187) (k := 1) rfl
    have c8 : (m1.1 187 1) ≤ (0 : Int32) := c6
    have k9 := y_ler (n := 0) rfl c8
    have w10 : WT (uI m1 187 16 (0 : Int32)) := w_m1.t rfl (by show (0 : Int) ≤ (0 : Int); omega) (by show (0 : Int) ≤ 16; omega)
    have f10 : Fx (RS [20, 22, 26, 28, 33]) m (uI m1 187 16 (0 : Int32)) := f_m1.i rfl
    exact ⟨w10, f10, _, rfl⟩
  · intro c11
    have r12 := w_m1.at (a := 187) (k := 1) rfl
    have c13 : ¬ (m1.1 187 1) ≤ (0 : Int32) := c11
    have k14 := y_nler (n := 0) rfl c13
    have w15 : WT (uI m1 187 16 (0 : Int32)) := w_m1.t rfl (by show (0 : Int) ≤ (0 : Int); omega) (by show (0 : Int) ≤ 16; omega)
    have f15 : Fx (RS [20, 22, 26, 28, 33]) m (uI m1 187 16 (0 : Int32)) := f_m1.i rfl
    refine (s_X12_tell w15 (by show (0 : Int) ≤ 15; omega)).to ?_
    rintro _ m3 ⟨w_m3, g16, rfl, p17⟩
    have f_m3 : Fx (RS [20, 22, 26, 28, 33]) m m3 := f15.tr g16 (RS_sub rfl)
    have p18 : (m3.1 187 16).toInt = (0 : Int) + 1 := p17
    clear p17
    have e19 : (m3.1 187 1).toInt = ((m1.1 187 1)).toInt := congrArg _ (g16.at (a := 187) (k := 1) (by decide))
    have e20 : (m3.1 187 0).toInt = ((m1.1 187 0)).toInt := congrArg _ (g16.at (a := 187) (k := 0) (by decide))
    refine ⟨rfl, ?_⟩
    have r21 := w_m3.at (a := 187) (k := 16) rfl
    refine (s_X12_tell w_m3 (by show ((m3.1 187 16)).toInt ≤ 15; omega)).to ?_
    rintro _ m4 ⟨w_m4, g22, rfl, p23⟩
    have f_m4 : Fx (RS [20, 22, 26, 28, 33]) m m4 := f_m3.tr g22 (RS_sub rfl)
    have p24 : (m4.1 187 16).toInt = ((m3.1 187 16)).toInt + 1 := p23
    clear p23
    have e25 : (m4.1 187 1).toInt = ((m3.1 187 1)).toInt := congrArg _ (g22.at (a := 187) (k := 1) (by decide))
    have e26 : (m4.1 187 0).toInt = ((m3.1 187 0)).toInt := congrArg _ (g22.at (a := 187) (k := 0) (by decide))
    refine ⟨rfl, ?_⟩
    exact ⟨w_m4, f_m4, _, rfl⟩
set_option maxHeartbeats 4000000 in
theorem l_X12_swap {ad : Nat → Nat} {d : Nat} {m0 : Wm}  : ∀ n : Nat, (∀ (m : Wm) (x1 x2 x3 : Int32), WT m → Fx (RS [20, 24, 29]) m0 m → (0 : Int) ≤ x1.toInt → x1.toInt ≤ (7 : Int) → (0 : Int) ≤ x2.toInt → x2.toInt ≤ (7 : Int) → (0 : Int) ≤ x3.toInt → x3.toInt ≤ (4 : Int) → (x1.toInt < (m0.1 187 1).toInt ∧ x2.toInt < (m0.1 187 1).toInt ∧ x1.toInt ≠ x2.toInt) → 4 - x3.toInt < (n : Int) → AW ad E0 μX12_swap (d + 3) (fun r m' => WT m' ∧ Fx (RS [20, 24, 29]) m0 m' ∧ ∃ v : Int32, r = some (.int v) ∧ (0 : Int) ≤ v.toInt ∧ v.toInt ≤ 1 ∧ ((v.toInt = 0 ∧ (x1.toInt < 0 ∨ (m0.1 187 1).toInt ≤ x1.toInt ∨ x2.toInt < 0 ∨ (m0.1 187 1).toInt ≤ x2.toInt ∨ x1.toInt = x2.toInt)) ∨ (v.toInt = 1 ∧ 0 ≤ x1.toInt ∧ x1.toInt < (m0.1 187 1).toInt ∧ 0 ≤ x2.toInt ∧ x2.toInt < (m0.1 187 1).toInt ∧ x1.toInt ≠ x2.toInt))) 18 [(0, .ref (ad 187)), (1, .int x1), (2, .int x2), (3, .int x3)] [] m) := by
  intro n
  induction n with
  | zero =>
    intros
    exfalso
    omega
  | succ n ih =>
    intro m x1 x2 x3 w f j1 j2 j3 j4 j5 j6 j7 hn
    refine g_X12_swap_18  ?_
    refine ⟨?_, ?_⟩
    · intro c1
      have k2 := y_lel (n := 4) rfl c1
      have w3 : WT (uI m 187 30 (0 : Int32)) := w.t rfl (by show (0 : Int) ≤ (0 : Int); omega) (by show (0 : Int) ≤ 20; omega)
      have f3 : Fx (RS [20, 24, 29]) m0 (uI m 187 30 (0 : Int32)) := f.i rfl
      exact ⟨w3, f3, _, rfl, (by show (0 : Int) ≤ (1 : Int); omega), (by show (1 : Int) ≤ (1 : Int); omega), (by show ((1 : Int) = 0 ∧ (x1.toInt < 0 ∨ (m0.1 187 1).toInt ≤ x1.toInt ∨ x2.toInt < 0 ∨ (m0.1 187 1).toInt ≤ x2.toInt ∨ x1.toInt = x2.toInt)) ∨ ((1 : Int) = 1 ∧ 0 ≤ x1.toInt ∧ x1.toInt < (m0.1 187 1).toInt ∧ 0 ≤ x2.toInt ∧ x2.toInt < (m0.1 187 1).toInt ∧ x1.toInt ≠ x2.toInt); omega)⟩
    · intro c4
      have k5 := y_nlel (n := 4) rfl c4
      refine ⟨?_, ?_⟩
      · have t6 := ti_mulc (c := 4) (y := (4 : Int32)) (x := x1) rfl (by omega)
        have t7 := ti_add (x := ((4 : Int32) * x1)) (y := x3) (by omega)
        exact vpi (by omega) (by omega)
      · refine ⟨?_, ?_⟩
        · have t8 := ti_mulc (c := 4) (y := (4 : Int32)) (x := x2) rfl (by omega)
          have t9 := ti_add (x := ((4 : Int32) * x2)) (y := x3) (by omega)
          exact vpi (by omega) (by omega)
        · refine ⟨?_, ?_⟩
          · have t10 := ti_mulc (c := 4) (y := (4 : Int32)) (x := x1) rfl (by omega)
            have t11 := ti_add (x := ((4 : Int32) * x1)) (y := x3) (by omega)
            exact vpi (by omega) (by omega)
          · refine ⟨?_, ?_⟩
            · have t12 := ti_mulc (c := 4) (y := (4 : Int32)) (x := x2) rfl (by omega)
              have t13 := ti_add (x := ((4 : Int32) * x2)) (y := x3) (by omega)
              exact vpi (by omega) (by omega)
            · have w14 : WT (uI m 188 ((((4 : Int32) * x1) + x3).toNatClampNeg) (m.1 188 ((((4 : Int32) * x2) + x3).toNatClampNeg))) := w.n rfl
              have f14 : Fx (RS [20, 24, 29]) m0 (uI m 188 ((((4 : Int32) * x1) + x3).toNatClampNeg) (m.1 188 ((((4 : Int32) * x2) + x3).toNatClampNeg))) := f.i rfl
              have w15 : WT (uI (uI m 188 ((((4 : Int32) * x1) + x3).toNatClampNeg) (m.1 188 ((((4 : Int32) * x2) + x3).toNatClampNeg))) 188 ((((4 : Int32) * x2) + x3).toNatClampNeg) (m.1 188 ((((4 : Int32) * x1) + x3).toNatClampNeg))) := w14.n rfl
              have f15 : Fx (RS [20, 24, 29]) m0 (uI (uI m 188 ((((4 : Int32) * x1) + x3).toNatClampNeg) (m.1 188 ((((4 : Int32) * x2) + x3).toNatClampNeg))) 188 ((((4 : Int32) * x2) + x3).toNatClampNeg) (m.1 188 ((((4 : Int32) * x1) + x3).toNatClampNeg))) := f14.i rfl
              have t16 := ti_addc (x := x3) (y := (1 : Int32)) (c := 1) rfl (by omega)
              exact ih _ _ _ _ w15 f15 (by show (0 : Int) ≤ (x1).toInt; omega) (by show (x1).toInt ≤ (7 : Int); omega) (by show (0 : Int) ≤ (x2).toInt; omega) (by show (x2).toInt ≤ (7 : Int); omega) (by show (0 : Int) ≤ ((x3 + (1 : Int32))).toInt; omega) (by show ((x3 + (1 : Int32))).toInt ≤ (4 : Int); omega) (by show (x1).toInt < (m0.1 187 1).toInt ∧ (x2).toInt < (m0.1 187 1).toInt ∧ (x1).toInt ≠ (x2).toInt; omega) (by show 4 - ((x3 + (1 : Int32))).toInt < _; omega)
set_option maxHeartbeats 4000000 in
theorem s_X12_swap {ad : Nat → Nat} {d : Nat} {m : Wm} {x1 x2 : Int32} (w : WT m) : Ct ad μX12_swap (d + 3) [.ref (ad 187), .int x1, .int x2] m (fun r m' => WT m' ∧ Fx (RS [20, 24, 29]) m m' ∧ ∃ v : Int32, r = some (.int v) ∧ (0 : Int) ≤ v.toInt ∧ v.toInt ≤ 1 ∧ ((v.toInt = 0 ∧ (x1.toInt < 0 ∨ (m.1 187 1).toInt ≤ x1.toInt ∨ x2.toInt < 0 ∨ (m.1 187 1).toInt ≤ x2.toInt ∨ x1.toInt = x2.toInt)) ∨ (v.toInt = 1 ∧ 0 ≤ x1.toInt ∧ x1.toInt < (m.1 187 1).toInt ∧ 0 ≤ x2.toInt ∧ x2.toInt < (m.1 187 1).toInt ∧ x1.toInt ≠ x2.toInt))) := by
  have f : Fx (RS [20, 24, 29]) m m := Fx.rf
  refine v_X12_swap  ?_
  have w1 : WT (uI m 187 17 (0 : Int32)) := w.n rfl
  have f1 : Fx (RS [20, 24, 29]) m (uI m 187 17 (0 : Int32)) := f.i rfl
  refine (s_X12_areTwo w1).to ?_
  rintro _ m1 ⟨w_m1, g2, v2, rfl, p4, p5, p3⟩
  have f_m1 : Fx (RS [20, 24, 29]) m m1 := f1.tr g2 (RS_sub rfl)
  have p6 : (v2.toInt = 0 ∧ ((x1).toInt < 0 ∨ ((m.1 187 1)).toInt ≤ (x1).toInt ∨ (x2).toInt < 0 ∨ ((m.1 187 1)).toInt ≤ (x2).toInt ∨ (x1).toInt = (x2).toInt)) ∨ (v2.toInt = 1 ∧ 0 ≤ (x1).toInt ∧ (x1).toInt < ((m.1 187 1)).toInt ∧ 0 ≤ (x2).toInt ∧ (x2).toInt < ((m.1 187 1)).toInt ∧ (x1).toInt ≠ (x2).toInt) := p3
  clear p3
  have e7 : (m1.1 187 1).toInt = ((m.1 187 1)).toInt := congrArg _ (g2.at (a := 187) (k := 1) (by decide))
  have e8 : (m1.1 187 0).toInt = ((m.1 187 0)).toInt := congrArg _ (g2.at (a := 187) (k := 0) (by decide))
  refine ⟨v2, rfl, ?_⟩
  refine ⟨?_, ?_⟩
  · intro c9
    have k10 := y_ner (n := 0) rfl c9
    have r11 := w.at (a := 187) (k := 1) rfl
    exact (l_X12_swap (m0 := m) 1000000) _ _ _ _ w_m1 f_m1 (by show (0 : Int) ≤ (x1).toInt; omega) (by show (x1).toInt ≤ (7 : Int); omega) (by show (0 : Int) ≤ (x2).toInt; omega) (by show (x2).toInt ≤ (7 : Int); omega) (by show (0 : Int) ≤ (0 : Int); omega) (by show (0 : Int) ≤ (4 : Int); omega) (by show (x1).toInt < (m.1 187 1).toInt ∧ (x2).toInt < (m.1 187 1).toInt ∧ (x1).toInt ≠ (x2).toInt; omega) (by show 4 - (0 : Int) < _; omega)
  · intro c12
    have k13 := y_eqr (n := 0) rfl c12
    exact ⟨w_m1, f_m1, _, rfl, (by show (0 : Int) ≤ (0 : Int); omega), (by show (0 : Int) ≤ (1 : Int); omega), (by show ((0 : Int) = 0 ∧ (x1.toInt < 0 ∨ (m.1 187 1).toInt ≤ x1.toInt ∨ x2.toInt < 0 ∨ (m.1 187 1).toInt ≤ x2.toInt ∨ x1.toInt = x2.toInt)) ∨ ((0 : Int) = 1 ∧ 0 ≤ x1.toInt ∧ x1.toInt < (m.1 187 1).toInt ∧ 0 ≤ x2.toInt ∧ x2.toInt < (m.1 187 1).toInt ∧ x1.toInt ≠ x2.toInt); omega)⟩
set_option maxHeartbeats 4000000 in
theorem l_X12_beatenBy {ad : Nat → Nat} {d : Nat} {m0 : Wm}  : ∀ n : Nat, (∀ (m : Wm) (x1 x2 x3 : Int32), WT m → Fx (RS [22, 28]) m0 m → (0 : Int) ≤ x1.toInt → x1.toInt ≤ (7 : Int) → (0 : Int) ≤ x3.toInt → x3.toInt ≤ (8 : Int) → 8 - x3.toInt < (n : Int) → AW ad E0 μX12_beatenBy (d + 170) (fun r m' => WT m' ∧ Fx (RS [22, 28]) m0 m' ∧ ∃ v : Int32, r = some (.int v)) 4 [(0, .ref (ad 187)), (1, .int x1), (2, .int x2), (3, .int x3)] [] m) := by
  intro n
  induction n with
  | zero =>
    intros
    exfalso
    omega
  | succ n ih =>
    intro m x1 x2 x3 w f j1 j2 j3 j4 hn
    refine g_X12_beatenBy_4  ?_
    refine ⟨?_, ?_⟩
    · intro c1
      have r2 := w.at (a := 187) (k := 1) rfl
      have k3 := z_le c1
      exact ⟨w, f, _, rfl⟩
    · intro c4
      have r5 := w.at (a := 187) (k := 1) rfl
      have k6 := z_nle c4
      refine ⟨?_, ?_⟩
      · intro c7
        have k8 := z_eq c7
        have t9 := ti_addc (x := x3) (y := (1 : Int32)) (c := 1) rfl (by omega)
        exact ih _ _ _ _ w f (by show (0 : Int) ≤ (x1).toInt; omega) (by show (x1).toInt ≤ (7 : Int); omega) (by show (0 : Int) ≤ ((x3 + (1 : Int32))).toInt; omega) (by show ((x3 + (1 : Int32))).toInt ≤ (8 : Int); omega) (by show 8 - ((x3 + (1 : Int32))).toInt < _; omega)
      · intro c10
        have k11 := z_ne c10
        refine (s_X12_winner w (by show (0 : Int) ≤ (x1).toInt; omega) (by show (x1).toInt ≤ (7 : Int); omega) (by show (0 : Int) ≤ (x3).toInt; omega) (by show (x3).toInt ≤ (7 : Int); omega)).to ?_
        rintro _ m1 ⟨w_m1, g12, v2, rfl, p13, p14⟩
        have f_m1 : Fx (RS [22, 28]) m0 m1 := f.tr g12 (RS_sub rfl)
        have e15 : (m1.1 187 1).toInt = ((m.1 187 1)).toInt := congrArg _ (g12.at (a := 187) (k := 1) (by decide))
        have e16 : (m1.1 187 0).toInt = ((m.1 187 0)).toInt := congrArg _ (g12.at (a := 187) (k := 0) (by decide))
        refine ⟨v2, rfl, ?_⟩
        refine ⟨?_, ?_⟩
        · intro c17
          have k18 := y_ner (n := 0) rfl c17
          have t19 := ti_addc (x := x3) (y := (1 : Int32)) (c := 1) rfl (by omega)
          exact ih _ _ _ _ w_m1 f_m1 (by show (0 : Int) ≤ (x1).toInt; omega) (by show (x1).toInt ≤ (7 : Int); omega) (by show (0 : Int) ≤ ((x3 + (1 : Int32))).toInt; omega) (by show ((x3 + (1 : Int32))).toInt ≤ (8 : Int); omega) (by show 8 - ((x3 + (1 : Int32))).toInt < _; omega)
        · intro c20
          have k21 := y_eqr (n := 0) rfl c20
          have t22 := ti_addc (x := x3) (y := (1 : Int32)) (c := 1) rfl (by omega)
          exact ih _ _ _ _ w_m1 f_m1 (by show (0 : Int) ≤ (x1).toInt; omega) (by show (x1).toInt ≤ (7 : Int); omega) (by show (0 : Int) ≤ ((x3 + (1 : Int32))).toInt; omega) (by show ((x3 + (1 : Int32))).toInt ≤ (8 : Int); omega) (by show 8 - ((x3 + (1 : Int32))).toInt < _; omega)
set_option maxHeartbeats 4000000 in
theorem s_X12_beatenBy {ad : Nat → Nat} {d : Nat} {m : Wm} {x1 : Int32} (w : WT m) (i1 : (0 : Int) ≤ x1.toInt) (i2 : x1.toInt ≤ (7 : Int)) : Ct ad μX12_beatenBy (d + 170) [.ref (ad 187), .int x1] m (fun r m' => WT m' ∧ Fx (RS [22, 28]) m m' ∧ ∃ v : Int32, r = some (.int v)) := by
  have f : Fx (RS [22, 28]) m m := Fx.rf
  refine v_X12_beatenBy  ?_
  exact (l_X12_beatenBy (m0 := m) 1000000) _ _ _ _ w f (by show (0 : Int) ≤ (x1).toInt; omega) (by show (x1).toInt ≤ (7 : Int); omega) (by show (0 : Int) ≤ (0 : Int); omega) (by show (0 : Int) ≤ (8 : Int); omega) (by show 8 - (0 : Int) < _; omega)
set_option maxHeartbeats 4000000 in
theorem l_X12_beats {ad : Nat → Nat} {d : Nat} {m0 : Wm}  : ∀ n : Nat, (∀ (m : Wm) (x1 x2 x3 : Int32), WT m → Fx (RS [20, 22, 26, 28]) m0 m → (0 : Int) ≤ x1.toInt → x1.toInt ≤ (7 : Int) → (0 : Int) ≤ x3.toInt → x3.toInt ≤ (8 : Int) → 8 - x3.toInt < (n : Int) → AW ad E0 μX12_beats (d + 171) (fun r m' => WT m' ∧ Fx (RS [20, 22, 26, 28]) m0 m' ∧ ∃ v : Int32, r = some (.int v)) 19 [(0, .ref (ad 187)), (1, .int x1), (2, .int x2), (3, .int x3)] [] m) := by
  intro n
  induction n with
  | zero =>
    intros
    exfalso
    omega
  | succ n ih =>
    intro m x1 x2 x3 w f j1 j2 j3 j4 hn
    refine g_X12_beats_19  ?_
    refine ⟨?_, ?_⟩
    · intro c1
      have r2 := w.at (a := 187) (k := 1) rfl
      have k3 := z_le c1
      have w4 : WT (uI m 187 16 (0 : Int32)) := w.t rfl (by show (0 : Int) ≤ (0 : Int); omega) (by show (0 : Int) ≤ 16; omega)
      have f4 : Fx (RS [20, 22, 26, 28]) m0 (uI m 187 16 (0 : Int32)) := f.i rfl
      refine (s_X12_tell w4 (by show (0 : Int) ≤ 15; omega)).to ?_
      rintro _ m1 ⟨w_m1, g5, rfl, p6⟩
      have f_m1 : Fx (RS [20, 22, 26, 28]) m0 m1 := f4.tr g5 (RS_sub rfl)
      have p7 : (m1.1 187 16).toInt = (0 : Int) + 1 := p6
      clear p6
      have e8 : (m1.1 187 1).toInt = ((m.1 187 1)).toInt := congrArg _ (g5.at (a := 187) (k := 1) (by decide))
      have e9 : (m1.1 187 0).toInt = ((m.1 187 0)).toInt := congrArg _ (g5.at (a := 187) (k := 0) (by decide))
      refine ⟨rfl, ?_⟩
      refine (s_X12_beatenBy w_m1 (by show (0 : Int) ≤ (x1).toInt; omega) (by show (x1).toInt ≤ (7 : Int); omega)).to ?_
      rintro _ m2 ⟨w_m2, g10, v3, rfl⟩
      have f_m2 : Fx (RS [20, 22, 26, 28]) m0 m2 := f_m1.tr g10 (RS_sub rfl)
      have e11 : (m2.1 187 16).toInt = ((m1.1 187 16)).toInt := congrArg _ (g10.at (a := 187) (k := 16) (by decide))
      have e12 : (m2.1 187 1).toInt = ((m1.1 187 1)).toInt := congrArg _ (g10.at (a := 187) (k := 1) (by decide))
      have e13 : (m2.1 187 0).toInt = ((m1.1 187 0)).toInt := congrArg _ (g10.at (a := 187) (k := 0) (by decide))
      refine ⟨v3, rfl, ?_⟩
      exact ⟨w_m2, f_m2, _, rfl⟩
    · intro c14
      have r15 := w.at (a := 187) (k := 1) rfl
      have k16 := z_nle c14
      refine ⟨?_, ?_⟩
      · intro c17
        have k18 := z_eq c17
        have t19 := ti_addc (x := x3) (y := (1 : Int32)) (c := 1) rfl (by omega)
        exact ih _ _ _ _ w f (by show (0 : Int) ≤ (x1).toInt; omega) (by show (x1).toInt ≤ (7 : Int); omega) (by show (0 : Int) ≤ ((x3 + (1 : Int32))).toInt; omega) (by show ((x3 + (1 : Int32))).toInt ≤ (8 : Int); omega) (by show 8 - ((x3 + (1 : Int32))).toInt < _; omega)
      · intro c20
        have k21 := z_ne c20
        refine (s_X12_winner w (by show (0 : Int) ≤ (x1).toInt; omega) (by show (x1).toInt ≤ (7 : Int); omega) (by show (0 : Int) ≤ (x3).toInt; omega) (by show (x3).toInt ≤ (7 : Int); omega)).to ?_
        rintro _ m4 ⟨w_m4, g22, v5, rfl, p23, p24⟩
        have f_m4 : Fx (RS [20, 22, 26, 28]) m0 m4 := f.tr g22 (RS_sub rfl)
        have e25 : (m4.1 187 16).toInt = ((m.1 187 16)).toInt := congrArg _ (g22.at (a := 187) (k := 16) (by decide))
        have e26 : (m4.1 187 1).toInt = ((m.1 187 1)).toInt := congrArg _ (g22.at (a := 187) (k := 1) (by decide))
        have e27 : (m4.1 187 0).toInt = ((m.1 187 0)).toInt := congrArg _ (g22.at (a := 187) (k := 0) (by decide))
        refine ⟨v5, rfl, ?_⟩
        refine ⟨?_, ?_⟩
        · intro c28
          have k29 := y_ner (n := 2) rfl c28
          have t30 := ti_addc (x := x3) (y := (1 : Int32)) (c := 1) rfl (by omega)
          exact ih _ _ _ _ w_m4 f_m4 (by show (0 : Int) ≤ (x1).toInt; omega) (by show (x1).toInt ≤ (7 : Int); omega) (by show (0 : Int) ≤ ((x3 + (1 : Int32))).toInt; omega) (by show ((x3 + (1 : Int32))).toInt ≤ (8 : Int); omega) (by show 8 - ((x3 + (1 : Int32))).toInt < _; omega)
        · intro c31
          have k32 := y_eqr (n := 2) rfl c31
          have t33 := ti_addc (x := x3) (y := (1 : Int32)) (c := 1) rfl (by omega)
          exact ih _ _ _ _ w_m4 f_m4 (by show (0 : Int) ≤ (x1).toInt; omega) (by show (x1).toInt ≤ (7 : Int); omega) (by show (0 : Int) ≤ ((x3 + (1 : Int32))).toInt; omega) (by show ((x3 + (1 : Int32))).toInt ≤ (8 : Int); omega) (by show 8 - ((x3 + (1 : Int32))).toInt < _; omega)
set_option maxHeartbeats 4000000 in
theorem s_X12_beats {ad : Nat → Nat} {d : Nat} {m : Wm} {x1 : Int32} (w : WT m) : Ct ad μX12_beats (d + 171) [.ref (ad 187), .int x1] m (fun r m' => WT m' ∧ Fx (RS [20, 22, 26, 28]) m m' ∧ ∃ v : Int32, r = some (.int v)) := by
  have f : Fx (RS [20, 22, 26, 28]) m m := Fx.rf
  refine v_X12_beats  ?_
  have w1 : WT (uI m 187 17 (0 : Int32)) := w.n rfl
  have f1 : Fx (RS [20, 22, 26, 28]) m (uI m 187 17 (0 : Int32)) := f.i rfl
  refine (s_X12_isSide w1).to ?_
  rintro _ m1 ⟨w_m1, g2, v2, rfl, p4, p5, p3⟩
  have f_m1 : Fx (RS [20, 22, 26, 28]) m m1 := f1.tr g2 (RS_sub rfl)
  have p6 : (v2.toInt = 0 ∧ ((x1).toInt < 0 ∨ ((m.1 187 1)).toInt ≤ (x1).toInt)) ∨ (v2.toInt = 1 ∧ 0 ≤ (x1).toInt ∧ (x1).toInt < ((m.1 187 1)).toInt) := p3
  clear p3
  have e7 : (m1.1 187 16).toInt = ((m.1 187 16)).toInt := congrArg _ (g2.at (a := 187) (k := 16) (by decide))
  have e8 : (m1.1 187 1).toInt = ((m.1 187 1)).toInt := congrArg _ (g2.at (a := 187) (k := 1) (by decide))
  have e9 : (m1.1 187 0).toInt = ((m.1 187 0)).toInt := congrArg _ (g2.at (a := 187) (k := 0) (by decide))
  refine ⟨v2, rfl, ?_⟩
  refine ⟨?_, ?_⟩
  · intro c10
    have k11 := y_ner (n := 0) rfl c10
    have r12 := w.at (a := 187) (k := 1) rfl
    exact (l_X12_beats (m0 := m) 1000000) _ _ _ _ w_m1 f_m1 (by show (0 : Int) ≤ (x1).toInt; omega) (by show (x1).toInt ≤ (7 : Int); omega) (by show (0 : Int) ≤ (0 : Int); omega) (by show (0 : Int) ≤ (8 : Int); omega) (by show 8 - (0 : Int) < _; omega)
  · intro c13
    have k14 := y_eqr (n := 0) rfl c13
    exact ⟨w_m1, f_m1, _, rfl⟩
set_option maxHeartbeats 4000000 in
theorem l_X12_kings {ad : Nat → Nat} {d : Nat} {m0 : Wm}  : ∀ n : Nat, (∀ (m : Wm) (x1 x2 x3 : Int32), WT m → Fx (RS [20, 22, 26, 28]) m0 m → (0 : Int) ≤ x3.toInt → x3.toInt ≤ (8 : Int) → (8 - x3.toInt) * 100 + 50 < (n : Int) → AW ad E0 μX12_kings (d + 171) (fun r m' => WT m' ∧ Fx (RS [20, 22, 26, 28]) m0 m' ∧ ∃ v : Int32, r = some (.int v)) 11 [(0, .ref (ad 187)), (1, .int x1), (2, .int x2), (3, .int x3)] [] m) ∧ (∀ (m : Wm) (x1 x2 x3 x4 x5 x6 : Int32), WT m → Fx (RS [20, 22, 26, 28]) m0 m → (0 : Int) ≤ x3.toInt → x3.toInt ≤ (7 : Int) → (0 : Int) ≤ x6.toInt → x6.toInt ≤ (8 : Int) → (8 - x3.toInt) * 100 + 20 - x6.toInt < (n : Int) → AW ad E0 μX12_kings (d + 171) (fun r m' => WT m' ∧ Fx (RS [20, 22, 26, 28]) m0 m' ∧ ∃ v : Int32, r = some (.int v)) 37 [(0, .ref (ad 187)), (1, .int x1), (2, .int x2), (3, .int x3), (4, .int x4), (5, .int x5), (6, .int x6)] [] m) ∧ (∀ (m : Wm) (x2 x3 x4 s0 s1 : Int32), WT m → Fx (RS [20, 22, 26, 28]) m0 m → (0 : Int) ≤ x3.toInt → x3.toInt ≤ (7 : Int) → (8 - x3.toInt) * 100 < (n : Int) → AW ad E0 μX12_kings (d + 171) (fun r m' => WT m' ∧ Fx (RS [20, 22, 26, 28]) m0 m' ∧ ∃ v : Int32, r = some (.int v)) 98 [(0, .ref (ad 187)), (2, .int x2), (3, .int x3), (4, .int x4)] [.int s0, .int s1] m) := by
  intro n
  induction n with
  | zero =>
    refine ⟨?_, ?_, ?_⟩ <;> intros <;> exfalso <;> omega
  | succ n ih =>
    refine ⟨?_, ?_, ?_⟩
    · intro m x1 x2 x3 w f j1 j2 hn
      refine g_X12_kings_11  ?_
      refine ⟨?_, ?_⟩
      · intro c1
        have r2 := w.at (a := 187) (k := 1) rfl
        have k3 := z_le c1
        have w4 : WT (uI m 187 16 (0 : Int32)) := w.t rfl (by show (0 : Int) ≤ (0 : Int); omega) (by show (0 : Int) ≤ 16; omega)
        have f4 : Fx (RS [20, 22, 26, 28]) m0 (uI m 187 16 (0 : Int32)) := f.i rfl
        refine (s_X12_tell w4 (by show (0 : Int) ≤ 15; omega)).to ?_
        rintro _ m1 ⟨w_m1, g5, rfl, p6⟩
        have f_m1 : Fx (RS [20, 22, 26, 28]) m0 m1 := f4.tr g5 (RS_sub rfl)
        have p7 : (m1.1 187 16).toInt = (0 : Int) + 1 := p6
        clear p6
        have e8 : (m1.1 187 1).toInt = ((m.1 187 1)).toInt := congrArg _ (g5.at (a := 187) (k := 1) (by decide))
        have e9 : (m1.1 187 0).toInt = ((m.1 187 0)).toInt := congrArg _ (g5.at (a := 187) (k := 0) (by decide))
        refine ⟨rfl, ?_⟩
        exact ⟨w_m1, f_m1, _, rfl⟩
      · intro c10
        have r11 := w.at (a := 187) (k := 1) rfl
        have k12 := z_nle c10
        refine (s_X12_beatenBy w (by show (0 : Int) ≤ (x3).toInt; omega) (by show (x3).toInt ≤ (7 : Int); omega)).to ?_
        rintro _ m2 ⟨w_m2, g13, v3, rfl⟩
        have f_m2 : Fx (RS [20, 22, 26, 28]) m0 m2 := f.tr g13 (RS_sub rfl)
        have e14 : (m2.1 187 16).toInt = ((m.1 187 16)).toInt := congrArg _ (g13.at (a := 187) (k := 16) (by decide))
        have e15 : (m2.1 187 1).toInt = ((m.1 187 1)).toInt := congrArg _ (g13.at (a := 187) (k := 1) (by decide))
        have e16 : (m2.1 187 0).toInt = ((m.1 187 0)).toInt := congrArg _ (g13.at (a := 187) (k := 0) (by decide))
        refine ⟨v3, rfl, ?_⟩
        exact ih.2.1 _ _ _ _ _ _ _ w_m2 f_m2 (by show (0 : Int) ≤ (x3).toInt; omega) (by show (x3).toInt ≤ (7 : Int); omega) (by show (0 : Int) ≤ (0 : Int); omega) (by show (0 : Int) ≤ (8 : Int); omega) (by show (8 - (x3).toInt) * 100 + 20 - (0 : Int) < _; omega)
    · intro m x1 x2 x3 x4 x5 x6 w f j1 j2 j3 j4 hn
      refine g_X12_kings_37  ?_
      refine ⟨?_, ?_⟩
      · intro c1
        have r2 := w.at (a := 187) (k := 1) rfl
        have k3 := z_le c1
        refine ⟨?_, ?_⟩
        · intro c4
          have k5 := z_ne c4
          exact ih.2.2 _ _ _ _ _ _ w f (by show (0 : Int) ≤ (x3).toInt; omega) (by show (x3).toInt ≤ (7 : Int); omega) (by show (8 - (x3).toInt) * 100 < _; omega)
        · intro c6
          have k7 := z_eq c6
          exact ih.2.2 _ _ _ _ _ _ w f (by show (0 : Int) ≤ (x3).toInt; omega) (by show (x3).toInt ≤ (7 : Int); omega) (by show (8 - (x3).toInt) * 100 < _; omega)
      · intro c8
        have r9 := w.at (a := 187) (k := 1) rfl
        have k10 := z_nle c8
        refine (s_X12_has w).to ?_
        rintro _ m1 ⟨w_m1, g11, v2, rfl, p12, p13⟩
        have f_m1 : Fx (RS [20, 22, 26, 28]) m0 m1 := f.tr g11 (RS_sub rfl)
        have e14 : (m1.1 187 16).toInt = ((m.1 187 16)).toInt := congrArg _ (g11.at (a := 187) (k := 16) (by decide))
        have e15 : (m1.1 187 1).toInt = ((m.1 187 1)).toInt := congrArg _ (g11.at (a := 187) (k := 1) (by decide))
        have e16 : (m1.1 187 0).toInt = ((m.1 187 0)).toInt := congrArg _ (g11.at (a := 187) (k := 0) (by decide))
        refine ⟨v2, rfl, ?_⟩
        refine ⟨?_, ?_⟩
        · intro c17
          have k18 := y_eqr (n := 0) rfl c17
          have t19 := ti_addc (x := x6) (y := (1 : Int32)) (c := 1) rfl (by omega)
          exact ih.2.1 _ _ _ _ _ _ _ w_m1 f_m1 (by show (0 : Int) ≤ (x3).toInt; omega) (by show (x3).toInt ≤ (7 : Int); omega) (by show (0 : Int) ≤ ((x6 + (1 : Int32))).toInt; omega) (by show ((x6 + (1 : Int32))).toInt ≤ (8 : Int); omega) (by show (8 - (x3).toInt) * 100 + 20 - ((x6 + (1 : Int32))).toInt < _; omega)
        · intro c20
          have k21 := y_ner (n := 0) rfl c20
          refine (s_X12_beatenBy w_m1 (by show (0 : Int) ≤ (x6).toInt; omega) (by show (x6).toInt ≤ (7 : Int); omega)).to ?_
          rintro _ m3 ⟨w_m3, g22, v4, rfl⟩
          have f_m3 : Fx (RS [20, 22, 26, 28]) m0 m3 := f_m1.tr g22 (RS_sub rfl)
          have e23 : (m3.1 187 16).toInt = ((m1.1 187 16)).toInt := congrArg _ (g22.at (a := 187) (k := 16) (by decide))
          have e24 : (m3.1 187 1).toInt = ((m1.1 187 1)).toInt := congrArg _ (g22.at (a := 187) (k := 1) (by decide))
          have e25 : (m3.1 187 0).toInt = ((m1.1 187 0)).toInt := congrArg _ (g22.at (a := 187) (k := 0) (by decide))
          refine ⟨v4, rfl, ?_⟩
          have t26 := ti_addc (x := x6) (y := (1 : Int32)) (c := 1) rfl (by omega)
          exact ih.2.1 _ _ _ _ _ _ _ w_m3 f_m3 (by show (0 : Int) ≤ (x3).toInt; omega) (by show (x3).toInt ≤ (7 : Int); omega) (by show (0 : Int) ≤ ((x6 + (1 : Int32))).toInt; omega) (by show ((x6 + (1 : Int32))).toInt ≤ (8 : Int); omega) (by show (8 - (x3).toInt) * 100 + 20 - ((x6 + (1 : Int32))).toInt < _; omega)
    · intro m x2 x3 x4 s0 s1 w f j1 j2 hn
      refine g_X12_kings_98  ?_
      refine ⟨?_, ?_⟩
      · intro c1
        have k2 := y_ner (n := 0) rfl c1
        have t3 := ti_addc (x := x3) (y := (1 : Int32)) (c := 1) rfl (by omega)
        exact ih.1 _ _ _ _ w f (by show (0 : Int) ≤ ((x3 + (1 : Int32))).toInt; omega) (by show ((x3 + (1 : Int32))).toInt ≤ (8 : Int); omega) (by show (8 - ((x3 + (1 : Int32))).toInt) * 100 + 50 < _; omega)
      · intro c4
        have k5 := y_eqr (n := 0) rfl c4
        have t6 := ti_addc (x := x3) (y := (1 : Int32)) (c := 1) rfl (by omega)
        exact ih.1 _ _ _ _ w f (by show (0 : Int) ≤ ((x3 + (1 : Int32))).toInt; omega) (by show ((x3 + (1 : Int32))).toInt ≤ (8 : Int); omega) (by show (8 - ((x3 + (1 : Int32))).toInt) * 100 + 50 < _; omega)
set_option maxHeartbeats 4000000 in
theorem s_X12_kings {ad : Nat → Nat} {d : Nat} {m : Wm} (w : WT m) : Ct ad μX12_kings (d + 171) [.ref (ad 187)] m (fun r m' => WT m' ∧ Fx (RS [20, 22, 26, 28]) m m' ∧ ∃ v : Int32, r = some (.int v)) := by
  have f : Fx (RS [20, 22, 26, 28]) m m := Fx.rf
  refine v_X12_kings  ?_
  have w1 : WT (uI m 187 17 (0 : Int32)) := w.n rfl
  have f1 : Fx (RS [20, 22, 26, 28]) m (uI m 187 17 (0 : Int32)) := f.i rfl
  exact (l_X12_kings (m0 := m) 1000000).1 _ _ _ _ w1 f1 (by show (0 : Int) ≤ (0 : Int); omega) (by show (0 : Int) ≤ (8 : Int); omega) (by show (8 - (0 : Int)) * 100 + 50 < _; omega)
set_option maxHeartbeats 4000000 in
theorem l_X12_master {ad : Nat → Nat} {d : Nat} {m0 : Wm}  : ∀ n : Nat, (∀ (m : Wm) (x1 x2 x3 x4 : Int32), WT m → Fx (RS [20, 26]) m0 m → (0 : Int) ≤ x1.toInt → x1.toInt ≤ (3 : Int) → (0 : Int) ≤ x2.toInt → x2.toInt ≤ (7 : Int) → (0 : Int) ≤ x4.toInt → x4.toInt ≤ (8 : Int) → (8 - x4.toInt) * 2 + 101 < (n : Int) → AW ad E0 μX12_master (d + 2) (fun r m' => WT m' ∧ Fx (RS [20, 26]) m0 m' ∧ ∃ v : Int32, r = some (.int v)) 33 [(0, .ref (ad 187)), (1, .int x1), (2, .int x2), (3, .int x3), (4, .int x4)] [] m) ∧ (∀ (m : Wm) (x1 x2 x3 x4 : Int32), WT m → Fx (RS [20, 26]) m0 m → (0 : Int) ≤ x1.toInt → x1.toInt ≤ (3 : Int) → (0 : Int) ≤ x2.toInt → x2.toInt ≤ (7 : Int) → (0 : Int) ≤ x4.toInt → x4.toInt ≤ (7 : Int) → (8 - x4.toInt) * 2 + 100 < (n : Int) → AW ad E0 μX12_master (d + 2) (fun r m' => WT m' ∧ Fx (RS [20, 26]) m0 m' ∧ ∃ v : Int32, r = some (.int v)) 69 [(0, .ref (ad 187)), (1, .int x1), (2, .int x2), (3, .int x3), (4, .int x4)] [] m) ∧ (∀ (m : Wm) (x1 x2 x3 x4 x5 : Int32), WT m → Fx (RS [20, 26]) m0 m → (0 : Int) ≤ x1.toInt → x1.toInt ≤ (3 : Int) → (0 : Int) ≤ x2.toInt → x2.toInt ≤ (7 : Int) → (0 : Int) ≤ x5.toInt → x5.toInt ≤ (8 : Int) → 8 - x5.toInt < (n : Int) → AW ad E0 μX12_master (d + 2) (fun r m' => WT m' ∧ Fx (RS [20, 26]) m0 m' ∧ ∃ v : Int32, r = some (.int v)) 97 [(0, .ref (ad 187)), (1, .int x1), (2, .int x2), (3, .int x3), (4, .int x4), (5, .int x5)] [] m) := by
  intro n
  induction n with
  | zero =>
    refine ⟨?_, ?_, ?_⟩ <;> intros <;> exfalso <;> omega
  | succ n ih =>
    refine ⟨?_, ?_, ?_⟩
    · intro m x1 x2 x3 x4 w f j1 j2 j3 j4 j5 j6 hn
      refine g_X12_master_33  ?_
      refine ⟨?_, ?_⟩
      · intro c1
        have r2 := w.at (a := 187) (k := 1) rfl
        have k3 := z_le c1
        exact ih.2.2 _ _ _ _ _ _ w f (by show (0 : Int) ≤ (x1).toInt; omega) (by show (x1).toInt ≤ (3 : Int); omega) (by show (0 : Int) ≤ (x2).toInt; omega) (by show (x2).toInt ≤ (7 : Int); omega) (by show (0 : Int) ≤ (0 : Int); omega) (by show (0 : Int) ≤ (8 : Int); omega) (by show 8 - (0 : Int) < _; omega)
      · intro c4
        have r5 := w.at (a := 187) (k := 1) rfl
        have k6 := z_nle c4
        refine ⟨?_, ?_⟩
        · have t7 := ti_mulc (c := 4) (y := (4 : Int32)) (x := x4) rfl (by omega)
          have t8 := ti_add (x := ((4 : Int32) * x4)) (y := x1) (by omega)
          exact vpi (by omega) (by omega)
        · refine ⟨?_, ?_⟩
          · have t9 := ti_mulc (c := 4) (y := (4 : Int32)) (x := x2) rfl (by omega)
            have t10 := ti_add (x := ((4 : Int32) * x2)) (y := x1) (by omega)
            exact vpi (by omega) (by omega)
          · refine ⟨?_, ?_⟩
            · intro c11
              have k12 := z_le c11
              exact ih.2.1 _ _ _ _ _ w f (by show (0 : Int) ≤ (x1).toInt; omega) (by show (x1).toInt ≤ (3 : Int); omega) (by show (0 : Int) ≤ (x2).toInt; omega) (by show (x2).toInt ≤ (7 : Int); omega) (by show (0 : Int) ≤ (x4).toInt; omega) (by show (x4).toInt ≤ (7 : Int); omega) (by show (8 - (x4).toInt) * 2 + 100 < _; omega)
            · intro c13
              have k14 := z_nle c13
              exact ih.2.1 _ _ _ _ _ w f (by show (0 : Int) ≤ (x1).toInt; omega) (by show (x1).toInt ≤ (3 : Int); omega) (by show (0 : Int) ≤ (x4).toInt; omega) (by show (x4).toInt ≤ (7 : Int); omega) (by show (0 : Int) ≤ (x4).toInt; omega) (by show (x4).toInt ≤ (7 : Int); omega) (by show (8 - (x4).toInt) * 2 + 100 < _; omega)
    · intro m x1 x2 x3 x4 w f j1 j2 j3 j4 j5 j6 hn
      refine g_X12_master_69  ?_
      refine ⟨?_, ?_⟩
      · have t1 := ti_mulc (c := 4) (y := (4 : Int32)) (x := x4) rfl (by omega)
        have t2 := ti_add (x := ((4 : Int32) * x4)) (y := x1) (by omega)
        exact vpi (by omega) (by omega)
      · have t3 := ti_addc (x := x4) (y := (1 : Int32)) (c := 1) rfl (by omega)
        exact ih.1 _ _ _ _ _ w f (by show (0 : Int) ≤ (x1).toInt; omega) (by show (x1).toInt ≤ (3 : Int); omega) (by show (0 : Int) ≤ (x2).toInt; omega) (by show (x2).toInt ≤ (7 : Int); omega) (by show (0 : Int) ≤ ((x4 + (1 : Int32))).toInt; omega) (by show ((x4 + (1 : Int32))).toInt ≤ (8 : Int); omega) (by show (8 - ((x4 + (1 : Int32))).toInt) * 2 + 101 < _; omega)
    · intro m x1 x2 x3 x4 x5 w f j1 j2 j3 j4 j5 j6 hn
      refine g_X12_master_97  ?_
      refine ⟨?_, ?_⟩
      · intro c1
        have r2 := w.at (a := 187) (k := 1) rfl
        have k3 := z_le c1
        refine ⟨?_, ?_⟩
        · have t4 := ti_mulc (c := 4) (y := (4 : Int32)) (x := x2) rfl (by omega)
          have t5 := ti_add (x := ((4 : Int32) * x2)) (y := x1) (by omega)
          exact vpi (by omega) (by omega)
        · have w6 : WT (uI m 187 16 (0 : Int32)) := w.t rfl (by show (0 : Int) ≤ (0 : Int); omega) (by show (0 : Int) ≤ 16; omega)
          have f6 : Fx (RS [20, 26]) m0 (uI m 187 16 (0 : Int32)) := f.i rfl
          refine (s_X12_tell w6 (by show (0 : Int) ≤ 15; omega)).to ?_
          rintro _ m1 ⟨w_m1, g7, rfl, p8⟩
          have f_m1 : Fx (RS [20, 26]) m0 m1 := f6.tr g7 (RS_sub rfl)
          have p9 : (m1.1 187 16).toInt = (0 : Int) + 1 := p8
          clear p8
          have e10 : (m1.1 187 1).toInt = ((m.1 187 1)).toInt := congrArg _ (g7.at (a := 187) (k := 1) (by decide))
          have e11 : (m1.1 187 0).toInt = ((m.1 187 0)).toInt := congrArg _ (g7.at (a := 187) (k := 0) (by decide))
          refine ⟨rfl, ?_⟩
          have r12 := w_m1.at (a := 187) (k := 16) rfl
          refine (s_X12_tell w_m1 (by show ((m1.1 187 16)).toInt ≤ 15; omega)).to ?_
          rintro _ m2 ⟨w_m2, g13, rfl, p14⟩
          have f_m2 : Fx (RS [20, 26]) m0 m2 := f_m1.tr g13 (RS_sub rfl)
          have p15 : (m2.1 187 16).toInt = ((m1.1 187 16)).toInt + 1 := p14
          clear p14
          have e16 : (m2.1 187 1).toInt = ((m1.1 187 1)).toInt := congrArg _ (g13.at (a := 187) (k := 1) (by decide))
          have e17 : (m2.1 187 0).toInt = ((m1.1 187 0)).toInt := congrArg _ (g13.at (a := 187) (k := 0) (by decide))
          refine ⟨rfl, ?_⟩
          have r18 := w_m2.at (a := 187) (k := 16) rfl
          refine (s_X12_tell w_m2 (by show ((m2.1 187 16)).toInt ≤ 15; omega)).to ?_
          rintro _ m3 ⟨w_m3, g19, rfl, p20⟩
          have f_m3 : Fx (RS [20, 26]) m0 m3 := f_m2.tr g19 (RS_sub rfl)
          have p21 : (m3.1 187 16).toInt = ((m2.1 187 16)).toInt + 1 := p20
          clear p20
          have e22 : (m3.1 187 1).toInt = ((m2.1 187 1)).toInt := congrArg _ (g19.at (a := 187) (k := 1) (by decide))
          have e23 : (m3.1 187 0).toInt = ((m2.1 187 0)).toInt := congrArg _ (g19.at (a := 187) (k := 0) (by decide))
          refine ⟨rfl, ?_⟩
          exact ⟨w_m3, f_m3, _, rfl⟩
      · intro c24
        have r25 := w.at (a := 187) (k := 1) rfl
        have k26 := z_nle c24
        refine ⟨?_, ?_⟩
        · have t27 := ti_mulc (c := 4) (y := (4 : Int32)) (x := x5) rfl (by omega)
          have t28 := ti_add (x := ((4 : Int32) * x5)) (y := x1) (by omega)
          exact vpi (by omega) (by omega)
        · refine ⟨?_, ?_⟩
          · have t29 := ti_mulc (c := 4) (y := (4 : Int32)) (x := x2) rfl (by omega)
            have t30 := ti_add (x := ((4 : Int32) * x2)) (y := x1) (by omega)
            exact vpi (by omega) (by omega)
          · refine ⟨?_, ?_⟩
            · intro c31
              have k32 := z_ne c31
              have t33 := ti_addc (x := x5) (y := (1 : Int32)) (c := 1) rfl (by omega)
              exact ih.2.2 _ _ _ _ _ _ w f (by show (0 : Int) ≤ (x1).toInt; omega) (by show (x1).toInt ≤ (3 : Int); omega) (by show (0 : Int) ≤ (x2).toInt; omega) (by show (x2).toInt ≤ (7 : Int); omega) (by show (0 : Int) ≤ ((x5 + (1 : Int32))).toInt; omega) (by show ((x5 + (1 : Int32))).toInt ≤ (8 : Int); omega) (by show 8 - ((x5 + (1 : Int32))).toInt < _; omega)
            · intro c34
              have k35 := z_eq c34
              have t36 := ti_addc (x := x5) (y := (1 : Int32)) (c := 1) rfl (by omega)
              exact ih.2.2 _ _ _ _ _ _ w f (by show (0 : Int) ≤ (x1).toInt; omega) (by show (x1).toInt ≤ (3 : Int); omega) (by show (0 : Int) ≤ (x2).toInt; omega) (by show (x2).toInt ≤ (7 : Int); omega) (by show (0 : Int) ≤ ((x5 + (1 : Int32))).toInt; omega) (by show ((x5 + (1 : Int32))).toInt ≤ (8 : Int); omega) (by show 8 - ((x5 + (1 : Int32))).toInt < _; omega)
set_option maxHeartbeats 4000000 in
theorem s_X12_master {ad : Nat → Nat} {d : Nat} {m : Wm} {x1 : Int32} (w : WT m) : Ct ad μX12_master (d + 2) [.ref (ad 187), .int x1] m (fun r m' => WT m' ∧ Fx (RS [20, 26]) m m' ∧ ∃ v : Int32, r = some (.int v)) := by
  have f : Fx (RS [20, 26]) m m := Fx.rf
  refine v_X12_master  ?_
  have w1 : WT (uI m 187 17 (0 : Int32)) := w.n rfl
  have f1 : Fx (RS [20, 26]) m (uI m 187 17 (0 : Int32)) := f.i rfl
  refine (s_X12_isArt w1).to ?_
  rintro _ m1 ⟨w_m1, g2, v2, rfl, p4, p5, p3⟩
  have f_m1 : Fx (RS [20, 26]) m m1 := f1.tr g2 (RS_sub rfl)
  have p6 : (v2.toInt = 0 ∧ ((x1).toInt < 0 ∨ ((m.1 187 0)).toInt ≤ (x1).toInt)) ∨ (v2.toInt = 1 ∧ 0 ≤ (x1).toInt ∧ (x1).toInt < ((m.1 187 0)).toInt) := p3
  clear p3
  have e7 : (m1.1 187 16).toInt = ((m.1 187 16)).toInt := congrArg _ (g2.at (a := 187) (k := 16) (by decide))
  have e8 : (m1.1 187 1).toInt = ((m.1 187 1)).toInt := congrArg _ (g2.at (a := 187) (k := 1) (by decide))
  have e9 : (m1.1 187 0).toInt = ((m.1 187 0)).toInt := congrArg _ (g2.at (a := 187) (k := 0) (by decide))
  refine ⟨v2, rfl, ?_⟩
  refine ⟨?_, ?_⟩
  · intro c10
    have k11 := y_ner (n := 0) rfl c10
    have r12 := w.at (a := 187) (k := 0) rfl
    refine ⟨?_, ?_⟩
    · intro c13
      have r14 := w_m1.at (a := 187) (k := 1) rfl
      have k15 := y_ner (n := 0) rfl c13
      exact (l_X12_master (m0 := m) 1000000).1 _ _ _ _ _ w_m1 f_m1 (by show (0 : Int) ≤ (x1).toInt; omega) (by show (x1).toInt ≤ (3 : Int); omega) (by show (0 : Int) ≤ (0 : Int); omega) (by show (0 : Int) ≤ (7 : Int); omega) (by show (0 : Int) ≤ (0 : Int); omega) (by show (0 : Int) ≤ (8 : Int); omega) (by show (8 - (0 : Int)) * 2 + 101 < _; omega)
    · intro c16
      have r17 := w_m1.at (a := 187) (k := 1) rfl
      have k18 := y_eqr (n := 0) rfl c16
      exact ⟨w_m1, f_m1, _, rfl⟩
  · intro c19
    have k20 := y_eqr (n := 0) rfl c19
    exact ⟨w_m1, f_m1, _, rfl⟩
