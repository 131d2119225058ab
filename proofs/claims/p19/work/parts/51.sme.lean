/-! SAFETY OF THE MODEL, BY PROGRAM (rest .. all) -/
set_option maxHeartbeats 4000000 in
theorem s_X12_rest {ad : Nat → Nat} {d : Nat} {m : Wm} (w : WT m) : Ct ad μX12_rest (d + 178) [.ref (ad 187)] m (fun r m' => WT m' ∧ Fx (RS [20, 22, 24, 26, 28, 34, 35, 49]) m m' ∧ ∃ v : Int32, r = some (.int v)) := by
  have f : Fx (RS [20, 22, 24, 26, 28, 34, 35, 49]) m m := Fx.rf
  refine v_X12_rest  ?_
  refine ⟨?_, ?_⟩
  · intro c1
    have r2 := w.at (a := 187) (k := 11) rfl
    have c3 : ¬ (m.1 187 11) = (0 : Int32) := c1
    have k4 := y_ner (n := 0) rfl c3
    have w5 : WT (uI m 187 17 (0 : Int32)) := w.n rfl
    have f5 : Fx (RS [20, 22, 24, 26, 28, 34, 35, 49]) m (uI m 187 17 (0 : Int32)) := f.i rfl
    refine (s_X12_findRest w5).to ?_
    rintro _ m1 ⟨w_m1, g6, v2, rfl, p8, p9, p7⟩
    have f_m1 : Fx (RS [20, 22, 24, 26, 28, 34, 35, 49]) m m1 := f5.tr g6 (RS_sub rfl)
    have p10 : v2.toInt = 0 ∨ (1 ≤ (m1.1 187 46).toInt ∧ (m1.1 187 45).toInt + (m1.1 187 46).toInt ≤ 2000) := p7
    clear p7
    have e11 : (m1.1 187 16).toInt = ((m.1 187 16)).toInt := congrArg _ (g6.at (a := 187) (k := 16) (by decide))
    have e12 : (m1.1 187 1).toInt = ((m.1 187 1)).toInt := congrArg _ (g6.at (a := 187) (k := 1) (by decide))
    have e13 : (m1.1 187 0).toInt = ((m.1 187 0)).toInt := congrArg _ (g6.at (a := 187) (k := 0) (by decide))
    refine ⟨v2, rfl, ?_⟩
    refine ⟨?_, ?_⟩
    · intro c14
      have k15 := y_ner (n := 0) rfl c14
      have r16 := w_m1.at (a := 187) (k := 45) rfl
      refine (s_X12_load w_m1 (by show (0 : Int) ≤ ((m1.1 187 45)).toInt; omega) (by show ((m1.1 187 45)).toInt ≤ (2999 : Int); omega)).to ?_
      rintro _ m3 ⟨w_m3, g17, rfl⟩
      have f_m3 : Fx (RS [20, 22, 24, 26, 28, 34, 35, 49]) m m3 := f_m1.tr g17 (RS_sub rfl)
      have e18 : (m3.1 187 16).toInt = ((m1.1 187 16)).toInt := congrArg _ (g17.at (a := 187) (k := 16) (by decide))
      have e19 : (m3.1 187 1).toInt = ((m1.1 187 1)).toInt := congrArg _ (g17.at (a := 187) (k := 1) (by decide))
      have e20 : (m3.1 187 0).toInt = ((m1.1 187 0)).toInt := congrArg _ (g17.at (a := 187) (k := 0) (by decide))
      refine ⟨rfl, ?_⟩
      refine (s_X12_sumOfAll w_m3).to ?_
      rintro _ m4 ⟨w_m4, g21, v5, rfl⟩
      have f_m4 : Fx (RS [20, 22, 24, 26, 28, 34, 35, 49]) m m4 := f_m3.tr g21 (RS_sub rfl)
      have e22 : (m4.1 187 16).toInt = ((m3.1 187 16)).toInt := congrArg _ (g21.at (a := 187) (k := 16) (by decide))
      have e23 : (m4.1 187 1).toInt = ((m3.1 187 1)).toInt := congrArg _ (g21.at (a := 187) (k := 1) (by decide))
      have e24 : (m4.1 187 0).toInt = ((m3.1 187 0)).toInt := congrArg _ (g21.at (a := 187) (k := 0) (by decide))
      refine ⟨v5, rfl, ?_⟩
      refine (s_X12_bring_204 w_m4 (by show (0 : Int) ≤ (0 : Int); omega) (by show (0 : Int) ≤ (0 : Int); omega)).to ?_
      rintro _ m6 ⟨w_m6, g25, rfl⟩
      have f_m6 : Fx (RS [20, 22, 24, 26, 28, 34, 35, 49]) m m6 := f_m4.tr g25 (RS_sub rfl)
      have e26 : (m6.1 187 16).toInt = ((m4.1 187 16)).toInt := congrArg _ (g25.at (a := 187) (k := 16) (by decide))
      have e27 : (m6.1 187 1).toInt = ((m4.1 187 1)).toInt := congrArg _ (g25.at (a := 187) (k := 1) (by decide))
      have e28 : (m6.1 187 0).toInt = ((m4.1 187 0)).toInt := congrArg _ (g25.at (a := 187) (k := 0) (by decide))
      refine ⟨rfl, ?_⟩
      have w29 : WT (uI m6 187 16 (0 : Int32)) := w_m6.t rfl (by show (0 : Int) ≤ (0 : Int); omega) (by show (0 : Int) ≤ 16; omega)
      have f29 : Fx (RS [20, 22, 24, 26, 28, 34, 35, 49]) m (uI m6 187 16 (0 : Int32)) := f_m6.i rfl
      refine (s_X12_tell w29 (by show (0 : Int) ≤ 15; omega)).to ?_
      rintro _ m7 ⟨w_m7, g30, rfl, p31⟩
      have f_m7 : Fx (RS [20, 22, 24, 26, 28, 34, 35, 49]) m m7 := f29.tr g30 (RS_sub rfl)
      have p32 : (m7.1 187 16).toInt = (0 : Int) + 1 := p31
      clear p31
      have e33 : (m7.1 187 1).toInt = ((m6.1 187 1)).toInt := congrArg _ (g30.at (a := 187) (k := 1) (by decide))
      have e34 : (m7.1 187 0).toInt = ((m6.1 187 0)).toInt := congrArg _ (g30.at (a := 187) (k := 0) (by decide))
      refine ⟨rfl, ?_⟩
      have r35 := w_m7.at (a := 187) (k := 16) rfl
      refine (s_X12_tell w_m7 (by show ((m7.1 187 16)).toInt ≤ 15; omega)).to ?_
      rintro _ m8 ⟨w_m8, g36, rfl, p37⟩
      have f_m8 : Fx (RS [20, 22, 24, 26, 28, 34, 35, 49]) m m8 := f_m7.tr g36 (RS_sub rfl)
      have p38 : (m8.1 187 16).toInt = ((m7.1 187 16)).toInt + 1 := p37
      clear p37
      have e39 : (m8.1 187 1).toInt = ((m7.1 187 1)).toInt := congrArg _ (g36.at (a := 187) (k := 1) (by decide))
      have e40 : (m8.1 187 0).toInt = ((m7.1 187 0)).toInt := congrArg _ (g36.at (a := 187) (k := 0) (by decide))
      refine ⟨rfl, ?_⟩
      have r41 := w_m8.at (a := 187) (k := 45) rfl
      exact ⟨w_m8, f_m8, _, rfl⟩
    · intro c42
      have k43 := y_eqr (n := 0) rfl c42
      exact ⟨w_m1, f_m1, _, rfl⟩
  · intro c44
    have r45 := w.at (a := 187) (k := 11) rfl
    have c46 : (m.1 187 11) = (0 : Int32) := c44
    have k47 := y_eqr (n := 0) rfl c46
    have w48 : WT (uI m 187 17 (0 : Int32)) := w.n rfl
    have f48 : Fx (RS [20, 22, 24, 26, 28, 34, 35, 49]) m (uI m 187 17 (0 : Int32)) := f.i rfl
    exact ⟨w48, f48, _, rfl⟩
set_option maxHeartbeats 4000000 in
theorem l_X12_mean {ad : Nat → Nat} {d : Nat} {m0 : Wm}  : ∀ n : Nat, (∀ (m : Wm) (x1 x2 x5 : Int32) (y3 : Int64), WT m → Fx (RS [20, 22, 24, 26, 28, 34, 35, 49]) m0 m → (0 : Int) ≤ x1.toInt → x1.toInt ≤ (7 : Int) → (0 : Int) ≤ x2.toInt → x2.toInt ≤ (3 : Int) → (0 : Int) ≤ x5.toInt → x5.toInt ≤ (2000 : Int) → (1 ≤ (m.1 187 46).toInt) → ((m.1 187 45).toInt + (m.1 187 46).toInt ≤ 2000) → 2001 - x5.toInt < (n : Int) → AW ad E0 μX12_mean (d + 178) (fun r m' => WT m' ∧ Fx (RS [20, 22, 24, 26, 28, 34, 35, 49]) m0 m' ∧ ∃ v : Int32, r = some (.int v)) 48 [(0, .ref (ad 187)), (1, .int x1), (2, .int x2), (3, .long y3), (5, .int x5)] [] m) := by
  intro n
  induction n with
  | zero =>
    intros
    exfalso
    omega
  | succ n ih =>
    intro m x1 x2 x5 y3 w f j1 j2 j3 j4 j5 j6 j7 j8 hn
    refine g_X12_mean_48  ?_
    refine ⟨?_, ?_⟩
    · intro c1
      have r2 := w.at (a := 187) (k := 45) rfl
      have r3 := w.at (a := 187) (k := 46) rfl
      have t4 := ti_add (x := (m.1 187 45)) (y := (m.1 187 46)) (by omega)
      have k5 := z_le c1
      have w6 : WT (uI m 187 16 (0 : Int32)) := w.t rfl (by show (0 : Int) ≤ (0 : Int); omega) (by show (0 : Int) ≤ 16; omega)
      have f6 : Fx (RS [20, 22, 24, 26, 28, 34, 35, 49]) m0 (uI m 187 16 (0 : Int32)) := f.i rfl
      refine (s_X12_tellPart w6 (wide_ne (by show 1 ≤ ((m.1 187 46)).toInt; omega)) (by show (0 : Int) ≤ 14; omega)).to ?_
      rintro _ m1 ⟨w_m1, g7, rfl, p8⟩
      have f_m1 : Fx (RS [20, 22, 24, 26, 28, 34, 35, 49]) m0 m1 := f6.tr g7 (RS_sub rfl)
      have p9 : (m1.1 187 16).toInt = (0 : Int) + 2 := p8
      clear p8
      have e10 : (m1.1 187 45).toInt = ((m.1 187 45)).toInt := congrArg _ (g7.at (a := 187) (k := 45) (by decide))
      have e11 : (m1.1 187 46).toInt = ((m.1 187 46)).toInt := congrArg _ (g7.at (a := 187) (k := 46) (by decide))
      have e12 : (m1.1 187 1).toInt = ((m.1 187 1)).toInt := congrArg _ (g7.at (a := 187) (k := 1) (by decide))
      have e13 : (m1.1 187 0).toInt = ((m.1 187 0)).toInt := congrArg _ (g7.at (a := 187) (k := 0) (by decide))
      refine ⟨rfl, ?_⟩
      exact ⟨w_m1, f_m1, _, rfl⟩
    · intro c14
      have r15 := w.at (a := 187) (k := 45) rfl
      have r16 := w.at (a := 187) (k := 46) rfl
      have t17 := ti_add (x := (m.1 187 45)) (y := (m.1 187 46)) (by omega)
      have k18 := z_nle c14
      refine (s_X12_skillIn w (by show (0 : Int) ≤ (x5).toInt; omega) (by show (x5).toInt ≤ (2999 : Int); omega) (by show (0 : Int) ≤ (x1).toInt; omega) (by show (x1).toInt ≤ (7 : Int); omega) (by show (0 : Int) ≤ (x2).toInt; omega) (by show (x2).toInt ≤ (3 : Int); omega)).to ?_
      rintro _ m2 ⟨w_m2, g19, v3, rfl⟩
      have f_m2 : Fx (RS [20, 22, 24, 26, 28, 34, 35, 49]) m0 m2 := f.tr g19 (RS_sub rfl)
      have e20 : (m2.1 187 16).toInt = ((m.1 187 16)).toInt := congrArg _ (g19.at (a := 187) (k := 16) (by decide))
      have e21 : (m2.1 187 45).toInt = ((m.1 187 45)).toInt := congrArg _ (g19.at (a := 187) (k := 45) (by decide))
      have e22 : (m2.1 187 46).toInt = ((m.1 187 46)).toInt := congrArg _ (g19.at (a := 187) (k := 46) (by decide))
      have e23 : (m2.1 187 1).toInt = ((m.1 187 1)).toInt := congrArg _ (g19.at (a := 187) (k := 1) (by decide))
      have e24 : (m2.1 187 0).toInt = ((m.1 187 0)).toInt := congrArg _ (g19.at (a := 187) (k := 0) (by decide))
      refine ⟨v3, rfl, ?_⟩
      have t25 := ti_addc (x := x5) (y := (1 : Int32)) (c := 1) rfl (by omega)
      have r26 := w_m2.at (a := 187) (k := 46) rfl
      have r27 := w_m2.at (a := 187) (k := 45) rfl
      exact ih _ _ _ _ _ w_m2 f_m2 (by show (0 : Int) ≤ (x1).toInt; omega) (by show (x1).toInt ≤ (7 : Int); omega) (by show (0 : Int) ≤ (x2).toInt; omega) (by show (x2).toInt ≤ (3 : Int); omega) (by show (0 : Int) ≤ ((x5 + (1 : Int32))).toInt; omega) (by show ((x5 + (1 : Int32))).toInt ≤ (2000 : Int); omega) (by show 1 ≤ ((m2.1 187 46)).toInt; omega) (by show ((m2.1 187 45)).toInt + ((m2.1 187 46)).toInt ≤ 2000; omega) (by show 2001 - ((x5 + (1 : Int32))).toInt < _; omega)
set_option maxHeartbeats 4000000 in
theorem s_X12_mean {ad : Nat → Nat} {d : Nat} {m : Wm} {x1 x2 : Int32} (w : WT m) : Ct ad μX12_mean (d + 178) [.ref (ad 187), .int x1, .int x2] m (fun r m' => WT m' ∧ Fx (RS [20, 22, 24, 26, 28, 34, 35, 49]) m m' ∧ ∃ v : Int32, r = some (.int v)) := by
  have f : Fx (RS [20, 22, 24, 26, 28, 34, 35, 49]) m m := Fx.rf
  refine v_X12_mean  ?_
  have w1 : WT (uI m 187 17 (0 : Int32)) := w.n rfl
  have f1 : Fx (RS [20, 22, 24, 26, 28, 34, 35, 49]) m (uI m 187 17 (0 : Int32)) := f.i rfl
  refine (s_X12_isSide w1).to ?_
  rintro _ m1 ⟨w_m1, g2, v2, rfl, p4, p5, p3⟩
  have f_m1 : Fx (RS [20, 22, 24, 26, 28, 34, 35, 49]) m m1 := f1.tr g2 (RS_sub rfl)
  have p6 : (v2.toInt = 0 ∧ ((x1).toInt < 0 ∨ ((m.1 187 1)).toInt ≤ (x1).toInt)) ∨ (v2.toInt = 1 ∧ 0 ≤ (x1).toInt ∧ (x1).toInt < ((m.1 187 1)).toInt) := p3
  clear p3
  have e7 : (m1.1 187 16).toInt = ((m.1 187 16)).toInt := congrArg _ (g2.at (a := 187) (k := 16) (by decide))
  have e8 : (m1.1 187 45).toInt = ((m.1 187 45)).toInt := congrArg _ (g2.at (a := 187) (k := 45) (by decide))
  have e9 : (m1.1 187 46).toInt = ((m.1 187 46)).toInt := congrArg _ (g2.at (a := 187) (k := 46) (by decide))
  have e10 : (m1.1 187 1).toInt = ((m.1 187 1)).toInt := congrArg _ (g2.at (a := 187) (k := 1) (by decide))
  have e11 : (m1.1 187 0).toInt = ((m.1 187 0)).toInt := congrArg _ (g2.at (a := 187) (k := 0) (by decide))
  refine ⟨v2, rfl, ?_⟩
  refine ⟨?_, ?_⟩
  · intro c12
    have k13 := y_eqr (n := 0) rfl c12
    exact ⟨w_m1, f_m1, _, rfl⟩
  · intro c14
    have k15 := y_ner (n := 0) rfl c14
    have r16 := w.at (a := 187) (k := 1) rfl
    refine (s_X12_isArt w_m1).to ?_
    rintro _ m3 ⟨w_m3, g17, v4, rfl, p19, p20, p18⟩
    have f_m3 : Fx (RS [20, 22, 24, 26, 28, 34, 35, 49]) m m3 := f_m1.tr g17 (RS_sub rfl)
    have p21 : (v4.toInt = 0 ∧ ((x2).toInt < 0 ∨ ((m1.1 187 0)).toInt ≤ (x2).toInt)) ∨ (v4.toInt = 1 ∧ 0 ≤ (x2).toInt ∧ (x2).toInt < ((m1.1 187 0)).toInt) := p18
    clear p18
    have e22 : (m3.1 187 16).toInt = ((m1.1 187 16)).toInt := congrArg _ (g17.at (a := 187) (k := 16) (by decide))
    have e23 : (m3.1 187 45).toInt = ((m1.1 187 45)).toInt := congrArg _ (g17.at (a := 187) (k := 45) (by decide))
    have e24 : (m3.1 187 46).toInt = ((m1.1 187 46)).toInt := congrArg _ (g17.at (a := 187) (k := 46) (by decide))
    have e25 : (m3.1 187 1).toInt = ((m1.1 187 1)).toInt := congrArg _ (g17.at (a := 187) (k := 1) (by decide))
    have e26 : (m3.1 187 0).toInt = ((m1.1 187 0)).toInt := congrArg _ (g17.at (a := 187) (k := 0) (by decide))
    refine ⟨v4, rfl, ?_⟩
    refine ⟨?_, ?_⟩
    · intro c27
      have k28 := y_eqr (n := 0) rfl c27
      exact ⟨w_m3, f_m3, _, rfl⟩
    · intro c29
      have k30 := y_ner (n := 0) rfl c29
      have r31 := w_m1.at (a := 187) (k := 0) rfl
      refine ⟨?_, ?_⟩
      · intro c32
        have r33 := w_m3.at (a := 187) (k := 11) rfl
        have k34 := y_ner (n := 0) rfl c32
        refine (s_X12_findRest w_m3).to ?_
        rintro _ m5 ⟨w_m5, g35, v6, rfl, p37, p38, p36⟩
        have f_m5 : Fx (RS [20, 22, 24, 26, 28, 34, 35, 49]) m m5 := f_m3.tr g35 (RS_sub rfl)
        have p39 : v6.toInt = 0 ∨ (1 ≤ (m5.1 187 46).toInt ∧ (m5.1 187 45).toInt + (m5.1 187 46).toInt ≤ 2000) := p36
        clear p36
        have e40 : (m5.1 187 16).toInt = ((m3.1 187 16)).toInt := congrArg _ (g35.at (a := 187) (k := 16) (by decide))
        have e41 : (m5.1 187 1).toInt = ((m3.1 187 1)).toInt := congrArg _ (g35.at (a := 187) (k := 1) (by decide))
        have e42 : (m5.1 187 0).toInt = ((m3.1 187 0)).toInt := congrArg _ (g35.at (a := 187) (k := 0) (by decide))
        refine ⟨v6, rfl, ?_⟩
        refine ⟨?_, ?_⟩
        · intro c43
          have k44 := y_ner (n := 0) rfl c43
          have r45 := w_m5.at (a := 187) (k := 45) rfl
          have r46 := w_m5.at (a := 187) (k := 46) rfl
          exact (l_X12_mean (m0 := m) 1000000) _ _ _ _ _ w_m5 f_m5 (by show (0 : Int) ≤ (x1).toInt; omega) (by show (x1).toInt ≤ (7 : Int); omega) (by show (0 : Int) ≤ (x2).toInt; omega) (by show (x2).toInt ≤ (3 : Int); omega) (by show (0 : Int) ≤ ((m5.1 187 45)).toInt; omega) (by show ((m5.1 187 45)).toInt ≤ (2000 : Int); omega) (by show 1 ≤ ((m5.1 187 46)).toInt; omega) (by show ((m5.1 187 45)).toInt + ((m5.1 187 46)).toInt ≤ 2000; omega) (by show 2001 - ((m5.1 187 45)).toInt < _; omega)
        · intro c47
          have k48 := y_eqr (n := 0) rfl c47
          exact ⟨w_m5, f_m5, _, rfl⟩
      · intro c49
        have r50 := w_m3.at (a := 187) (k := 11) rfl
        have k51 := y_eqr (n := 0) rfl c49
        exact ⟨w_m3, f_m3, _, rfl⟩
set_option maxHeartbeats 4000000 in
theorem l_X12_soon {ad : Nat → Nat} {d : Nat} {m0 : Wm}  : ∀ n : Nat, (∀ (m : Wm) (x1 x2 x3 x4 x5 : Int32), WT m → Fx (RS [20, 22, 24, 26, 28, 34, 35, 49]) m0 m → (0 : Int) ≤ x1.toInt → x1.toInt ≤ (7 : Int) → (0 : Int) ≤ x2.toInt → x2.toInt ≤ (3 : Int) → (0 : Int) ≤ x5.toInt → x5.toInt ≤ (3000 : Int) → 3000 - x5.toInt < (n : Int) → AW ad E0 μX12_soon (d + 178) (fun r m' => WT m' ∧ Fx (RS [20, 22, 24, 26, 28, 34, 35, 49]) m0 m' ∧ ∃ v : Int32, r = some (.int v)) 51 [(0, .ref (ad 187)), (1, .int x1), (2, .int x2), (3, .int x3), (4, .int x4), (5, .int x5)] [] m) := by
  intro n
  induction n with
  | zero =>
    intros
    exfalso
    omega
  | succ n ih =>
    intro m x1 x2 x3 x4 x5 w f j1 j2 j3 j4 j5 j6 hn
    refine g_X12_soon_51  ?_
    refine ⟨?_, ?_⟩
    · intro c1
      have r2 := w.at (a := 187) (k := 43) rfl
      have k3 := z_le c1
      refine ⟨?_, ?_⟩
      · intro c4
        have k5 := y_eqr (n := 0) rfl c4
        exact ⟨w, f, _, rfl⟩
      · intro c6
        have k7 := y_ner (n := 0) rfl c6
        exact ⟨w, f, _, rfl⟩
    · intro c8
      have r9 := w.at (a := 187) (k := 43) rfl
      have k10 := z_nle c8
      refine (s_X12_skillIn w (by show (0 : Int) ≤ (x5).toInt; omega) (by show (x5).toInt ≤ (2999 : Int); omega) (by show (0 : Int) ≤ (x1).toInt; omega) (by show (x1).toInt ≤ (7 : Int); omega) (by show (0 : Int) ≤ (x2).toInt; omega) (by show (x2).toInt ≤ (3 : Int); omega)).to ?_
      rintro _ m1 ⟨w_m1, g11, v2, rfl⟩
      have f_m1 : Fx (RS [20, 22, 24, 26, 28, 34, 35, 49]) m0 m1 := f.tr g11 (RS_sub rfl)
      have e12 : (m1.1 187 1).toInt = ((m.1 187 1)).toInt := congrArg _ (g11.at (a := 187) (k := 1) (by decide))
      have e13 : (m1.1 187 0).toInt = ((m.1 187 0)).toInt := congrArg _ (g11.at (a := 187) (k := 0) (by decide))
      refine ⟨v2, rfl, ?_⟩
      refine ⟨?_, ?_⟩
      · intro c14
        have k15 := z_lt c14
        have t16 := ti_addc (x := x5) (y := (1 : Int32)) (c := 1) rfl (by omega)
        exact ih _ _ _ _ _ _ w_m1 f_m1 (by show (0 : Int) ≤ (x1).toInt; omega) (by show (x1).toInt ≤ (7 : Int); omega) (by show (0 : Int) ≤ (x2).toInt; omega) (by show (x2).toInt ≤ (3 : Int); omega) (by show (0 : Int) ≤ ((x5 + (1 : Int32))).toInt; omega) (by show ((x5 + (1 : Int32))).toInt ≤ (3000 : Int); omega) (by show 3000 - ((x5 + (1 : Int32))).toInt < _; omega)
      · intro c17
        have k18 := z_nlt c17
        exact ⟨w_m1, f_m1, _, rfl⟩
set_option maxHeartbeats 4000000 in
theorem s_X12_soon {ad : Nat → Nat} {d : Nat} {m : Wm} {x1 x2 x3 : Int32} (w : WT m) : Ct ad μX12_soon (d + 178) [.ref (ad 187), .int x1, .int x2, .int x3] m (fun r m' => WT m' ∧ Fx (RS [20, 22, 24, 26, 28, 34, 35, 49]) m m' ∧ ∃ v : Int32, r = some (.int v)) := by
  have f : Fx (RS [20, 22, 24, 26, 28, 34, 35, 49]) m m := Fx.rf
  refine v_X12_soon  ?_
  have w1 : WT (uI m 187 17 (0 : Int32)) := w.n rfl
  have f1 : Fx (RS [20, 22, 24, 26, 28, 34, 35, 49]) m (uI m 187 17 (0 : Int32)) := f.i rfl
  refine (s_X12_isSide w1).to ?_
  rintro _ m1 ⟨w_m1, g2, v2, rfl, p4, p5, p3⟩
  have f_m1 : Fx (RS [20, 22, 24, 26, 28, 34, 35, 49]) m m1 := f1.tr g2 (RS_sub rfl)
  have p6 : (v2.toInt = 0 ∧ ((x1).toInt < 0 ∨ ((m.1 187 1)).toInt ≤ (x1).toInt)) ∨ (v2.toInt = 1 ∧ 0 ≤ (x1).toInt ∧ (x1).toInt < ((m.1 187 1)).toInt) := p3
  clear p3
  have e7 : (m1.1 187 1).toInt = ((m.1 187 1)).toInt := congrArg _ (g2.at (a := 187) (k := 1) (by decide))
  have e8 : (m1.1 187 0).toInt = ((m.1 187 0)).toInt := congrArg _ (g2.at (a := 187) (k := 0) (by decide))
  refine ⟨v2, rfl, ?_⟩
  refine ⟨?_, ?_⟩
  · intro c9
    have k10 := y_eqr (n := 0) rfl c9
    exact ⟨w_m1, f_m1, _, rfl⟩
  · intro c11
    have k12 := y_ner (n := 0) rfl c11
    have r13 := w.at (a := 187) (k := 1) rfl
    refine (s_X12_isArt w_m1).to ?_
    rintro _ m3 ⟨w_m3, g14, v4, rfl, p16, p17, p15⟩
    have f_m3 : Fx (RS [20, 22, 24, 26, 28, 34, 35, 49]) m m3 := f_m1.tr g14 (RS_sub rfl)
    have p18 : (v4.toInt = 0 ∧ ((x2).toInt < 0 ∨ ((m1.1 187 0)).toInt ≤ (x2).toInt)) ∨ (v4.toInt = 1 ∧ 0 ≤ (x2).toInt ∧ (x2).toInt < ((m1.1 187 0)).toInt) := p15
    clear p15
    have e19 : (m3.1 187 1).toInt = ((m1.1 187 1)).toInt := congrArg _ (g14.at (a := 187) (k := 1) (by decide))
    have e20 : (m3.1 187 0).toInt = ((m1.1 187 0)).toInt := congrArg _ (g14.at (a := 187) (k := 0) (by decide))
    refine ⟨v4, rfl, ?_⟩
    refine ⟨?_, ?_⟩
    · intro c21
      have k22 := y_eqr (n := 0) rfl c21
      exact ⟨w_m3, f_m3, _, rfl⟩
    · intro c23
      have k24 := y_ner (n := 0) rfl c23
      have r25 := w_m1.at (a := 187) (k := 0) rfl
      refine (s_X12_in (x := x3) (lo := (0 : Int32)) (hi := (7 : Int32)) w_m3 rfl rfl).to ?_
      rintro _ m5 ⟨w_m5, g26, v6, rfl, p28, p29, p27⟩
      have f_m5 : Fx (RS [20, 22, 24, 26, 28, 34, 35, 49]) m m5 := f_m3.tr g26 (RS_sub rfl)
      have p30 : (v6.toInt = 0 ∧ ((x3).toInt < (0 : Int) ∨ (7 : Int) < (x3).toInt)) ∨ (v6.toInt = 1 ∧ (0 : Int) ≤ (x3).toInt ∧ (x3).toInt ≤ (7 : Int)) := p27
      clear p27
      have e31 : (m5.1 187 1).toInt = ((m3.1 187 1)).toInt := congrArg _ (g26.at (a := 187) (k := 1) (by decide))
      have e32 : (m5.1 187 0).toInt = ((m3.1 187 0)).toInt := congrArg _ (g26.at (a := 187) (k := 0) (by decide))
      refine ⟨v6, rfl, ?_⟩
      refine ⟨?_, ?_⟩
      · intro c33
        have k34 := y_eqr (n := 0) rfl c33
        exact ⟨w_m5, f_m5, _, rfl⟩
      · intro c35
        have k36 := y_ner (n := 0) rfl c35
        refine ⟨?_, ?_⟩
        · intro c37
          have r38 := w_m5.at (a := 187) (k := 11) rfl
          have k39 := y_ner (n := 0) rfl c37
          refine (s_X12_findRest w_m5).to ?_
          rintro _ m7 ⟨w_m7, g40, v8, rfl, p42, p43, p41⟩
          have f_m7 : Fx (RS [20, 22, 24, 26, 28, 34, 35, 49]) m m7 := f_m5.tr g40 (RS_sub rfl)
          have p44 : v8.toInt = 0 ∨ (1 ≤ (m7.1 187 46).toInt ∧ (m7.1 187 45).toInt + (m7.1 187 46).toInt ≤ 2000) := p41
          clear p41
          have e45 : (m7.1 187 1).toInt = ((m5.1 187 1)).toInt := congrArg _ (g40.at (a := 187) (k := 1) (by decide))
          have e46 : (m7.1 187 0).toInt = ((m5.1 187 0)).toInt := congrArg _ (g40.at (a := 187) (k := 0) (by decide))
          refine ⟨v8, rfl, ?_⟩
          exact (l_X12_soon (m0 := m) 1000000) _ _ _ _ _ _ w_m7 f_m7 (by show (0 : Int) ≤ (x1).toInt; omega) (by show (x1).toInt ≤ (7 : Int); omega) (by show (0 : Int) ≤ (x2).toInt; omega) (by show (x2).toInt ≤ (3 : Int); omega) (by show (0 : Int) ≤ (0 : Int); omega) (by show (0 : Int) ≤ (3000 : Int); omega) (by show 3000 - (0 : Int) < _; omega)
        · intro c47
          have r48 := w_m5.at (a := 187) (k := 11) rfl
          have k49 := y_eqr (n := 0) rfl c47
          exact ⟨w_m5, f_m5, _, rfl⟩
set_option maxHeartbeats 4000000 in
theorem s_X12_wins {ad : Nat → Nat} {d : Nat} {m : Wm} {x1 x2 x3 : Int32} (w : WT m) (i1 : (m.1 187 11).toInt = 0 ∨ 1 ≤ (m.1 187 10).toInt) : Ct ad μX12_wins (d + 191) [.ref (ad 187), .int x1, .int x2, .int x3] m (fun r m' => WT m' ∧ Fx (RS [20, 22, 24, 26, 28, 36, 37, 49]) m m' ∧ ∃ v : Int32, r = some (.int v) ∧ ((v.toInt = 0 ∧ (0 ≤ x1.toInt ∧ x1.toInt < (m.1 187 1).toInt) ∧ (1 ≤ x2.toInt ∧ x2.toInt ≤ 6) ∧ (0 ≤ x3.toInt ∧ x3.toInt ≤ x2.toInt) ∧ (m.1 187 11).toInt ≠ 0) ∨ (v.toInt = -1 ∧ ¬ ((0 ≤ x1.toInt ∧ x1.toInt < (m.1 187 1).toInt) ∧ (1 ≤ x2.toInt ∧ x2.toInt ≤ 6) ∧ (0 ≤ x3.toInt ∧ x3.toInt ≤ x2.toInt) ∧ (m.1 187 11).toInt ≠ 0)))) := by
  have f : Fx (RS [20, 22, 24, 26, 28, 36, 37, 49]) m m := Fx.rf
  refine v_X12_wins  ?_
  have w1 : WT (uI m 187 17 (0 : Int32)) := w.n rfl
  have f1 : Fx (RS [20, 22, 24, 26, 28, 36, 37, 49]) m (uI m 187 17 (0 : Int32)) := f.i rfl
  refine (s_X12_isSide w1).to ?_
  rintro _ m1 ⟨w_m1, g2, v2, rfl, p4, p5, p3⟩
  have f_m1 : Fx (RS [20, 22, 24, 26, 28, 36, 37, 49]) m m1 := f1.tr g2 (RS_sub rfl)
  have p6 : (v2.toInt = 0 ∧ ((x1).toInt < 0 ∨ ((m.1 187 1)).toInt ≤ (x1).toInt)) ∨ (v2.toInt = 1 ∧ 0 ≤ (x1).toInt ∧ (x1).toInt < ((m.1 187 1)).toInt) := p3
  clear p3
  have e7 : (m1.1 187 11).toInt = ((m.1 187 11)).toInt := congrArg _ (g2.at (a := 187) (k := 11) (by decide))
  have e8 : (m1.1 187 10).toInt = ((m.1 187 10)).toInt := congrArg _ (g2.at (a := 187) (k := 10) (by decide))
  have e9 : (m1.1 187 16).toInt = ((m.1 187 16)).toInt := congrArg _ (g2.at (a := 187) (k := 16) (by decide))
  have e10 : (m1.1 187 1).toInt = ((m.1 187 1)).toInt := congrArg _ (g2.at (a := 187) (k := 1) (by decide))
  have e11 : (m1.1 187 0).toInt = ((m.1 187 0)).toInt := congrArg _ (g2.at (a := 187) (k := 0) (by decide))
  refine ⟨v2, rfl, ?_⟩
  refine ⟨?_, ?_⟩
  · intro c12
    have k13 := y_eqr (n := 0) rfl c12
    exact ⟨w_m1, f_m1, _, rfl, (by show ((-1 : Int) = 0 ∧ (0 ≤ x1.toInt ∧ x1.toInt < (m.1 187 1).toInt) ∧ (1 ≤ x2.toInt ∧ x2.toInt ≤ 6) ∧ (0 ≤ x3.toInt ∧ x3.toInt ≤ x2.toInt) ∧ (m.1 187 11).toInt ≠ 0) ∨ ((-1 : Int) = -1 ∧ ¬ ((0 ≤ x1.toInt ∧ x1.toInt < (m.1 187 1).toInt) ∧ (1 ≤ x2.toInt ∧ x2.toInt ≤ 6) ∧ (0 ≤ x3.toInt ∧ x3.toInt ≤ x2.toInt) ∧ (m.1 187 11).toInt ≠ 0)); omega)⟩
  · intro c14
    have k15 := y_ner (n := 0) rfl c14
    have r16 := w.at (a := 187) (k := 1) rfl
    refine (s_X12_in (x := x2) (lo := (1 : Int32)) (hi := (6 : Int32)) w_m1 rfl rfl).to ?_
    rintro _ m3 ⟨w_m3, g17, v4, rfl, p19, p20, p18⟩
    have f_m3 : Fx (RS [20, 22, 24, 26, 28, 36, 37, 49]) m m3 := f_m1.tr g17 (RS_sub rfl)
    have p21 : (v4.toInt = 0 ∧ ((x2).toInt < (1 : Int) ∨ (6 : Int) < (x2).toInt)) ∨ (v4.toInt = 1 ∧ (1 : Int) ≤ (x2).toInt ∧ (x2).toInt ≤ (6 : Int)) := p18
    clear p18
    have e22 : (m3.1 187 11).toInt = ((m1.1 187 11)).toInt := congrArg _ (g17.at (a := 187) (k := 11) (by decide))
    have e23 : (m3.1 187 10).toInt = ((m1.1 187 10)).toInt := congrArg _ (g17.at (a := 187) (k := 10) (by decide))
    have e24 : (m3.1 187 16).toInt = ((m1.1 187 16)).toInt := congrArg _ (g17.at (a := 187) (k := 16) (by decide))
    have e25 : (m3.1 187 1).toInt = ((m1.1 187 1)).toInt := congrArg _ (g17.at (a := 187) (k := 1) (by decide))
    have e26 : (m3.1 187 0).toInt = ((m1.1 187 0)).toInt := congrArg _ (g17.at (a := 187) (k := 0) (by decide))
    refine ⟨v4, rfl, ?_⟩
    refine ⟨?_, ?_⟩
    · intro c27
      have k28 := y_eqr (n := 0) rfl c27
      exact ⟨w_m3, f_m3, _, rfl, (by show ((-1 : Int) = 0 ∧ (0 ≤ x1.toInt ∧ x1.toInt < (m.1 187 1).toInt) ∧ (1 ≤ x2.toInt ∧ x2.toInt ≤ 6) ∧ (0 ≤ x3.toInt ∧ x3.toInt ≤ x2.toInt) ∧ (m.1 187 11).toInt ≠ 0) ∨ ((-1 : Int) = -1 ∧ ¬ ((0 ≤ x1.toInt ∧ x1.toInt < (m.1 187 1).toInt) ∧ (1 ≤ x2.toInt ∧ x2.toInt ≤ 6) ∧ (0 ≤ x3.toInt ∧ x3.toInt ≤ x2.toInt) ∧ (m.1 187 11).toInt ≠ 0)); omega)⟩
    · intro c29
      have k30 := y_ner (n := 0) rfl c29
      refine (s_X12_in (x := x3) (lo := (0 : Int32)) (hi := x2) w_m3 rfl rfl).to ?_
      rintro _ m5 ⟨w_m5, g31, v6, rfl, p33, p34, p32⟩
      have f_m5 : Fx (RS [20, 22, 24, 26, 28, 36, 37, 49]) m m5 := f_m3.tr g31 (RS_sub rfl)
      have p35 : (v6.toInt = 0 ∧ ((x3).toInt < (0 : Int) ∨ (x2).toInt < (x3).toInt)) ∨ (v6.toInt = 1 ∧ (0 : Int) ≤ (x3).toInt ∧ (x3).toInt ≤ (x2).toInt) := p32
      clear p32
      have e36 : (m5.1 187 11).toInt = ((m3.1 187 11)).toInt := congrArg _ (g31.at (a := 187) (k := 11) (by decide))
      have e37 : (m5.1 187 10).toInt = ((m3.1 187 10)).toInt := congrArg _ (g31.at (a := 187) (k := 10) (by decide))
      have e38 : (m5.1 187 16).toInt = ((m3.1 187 16)).toInt := congrArg _ (g31.at (a := 187) (k := 16) (by decide))
      have e39 : (m5.1 187 1).toInt = ((m3.1 187 1)).toInt := congrArg _ (g31.at (a := 187) (k := 1) (by decide))
      have e40 : (m5.1 187 0).toInt = ((m3.1 187 0)).toInt := congrArg _ (g31.at (a := 187) (k := 0) (by decide))
      refine ⟨v6, rfl, ?_⟩
      refine ⟨?_, ?_⟩
      · intro c41
        have k42 := y_eqr (n := 0) rfl c41
        exact ⟨w_m5, f_m5, _, rfl, (by show ((-1 : Int) = 0 ∧ (0 ≤ x1.toInt ∧ x1.toInt < (m.1 187 1).toInt) ∧ (1 ≤ x2.toInt ∧ x2.toInt ≤ 6) ∧ (0 ≤ x3.toInt ∧ x3.toInt ≤ x2.toInt) ∧ (m.1 187 11).toInt ≠ 0) ∨ ((-1 : Int) = -1 ∧ ¬ ((0 ≤ x1.toInt ∧ x1.toInt < (m.1 187 1).toInt) ∧ (1 ≤ x2.toInt ∧ x2.toInt ≤ 6) ∧ (0 ≤ x3.toInt ∧ x3.toInt ≤ x2.toInt) ∧ (m.1 187 11).toInt ≠ 0)); omega)⟩
      · intro c43
        have k44 := y_ner (n := 0) rfl c43
        refine ⟨?_, ?_⟩
        · intro c45
          have r46 := w_m5.at (a := 187) (k := 11) rfl
          have k47 := y_ner (n := 0) rfl c45
          have r48 := w_m5.at (a := 187) (k := 10) rfl
          refine (s_X12_chanceOfWins w_m5 (by show (0 : Int) ≤ (x2).toInt; omega) (by show (x2).toInt ≤ (6 : Int); omega) (by show 1 ≤ ((m5.1 187 10)).toInt; omega)).to ?_
          rintro _ m7 ⟨w_m7, g49, w8, rfl⟩
          have f_m7 : Fx (RS [20, 22, 24, 26, 28, 36, 37, 49]) m m7 := f_m5.tr g49 (RS_sub rfl)
          have e50 : (m7.1 187 11).toInt = ((m5.1 187 11)).toInt := congrArg _ (g49.at (a := 187) (k := 11) (by decide))
          have e51 : (m7.1 187 10).toInt = ((m5.1 187 10)).toInt := congrArg _ (g49.at (a := 187) (k := 10) (by decide))
          have e52 : (m7.1 187 16).toInt = ((m5.1 187 16)).toInt := congrArg _ (g49.at (a := 187) (k := 16) (by decide))
          have e53 : (m7.1 187 1).toInt = ((m5.1 187 1)).toInt := congrArg _ (g49.at (a := 187) (k := 1) (by decide))
          have e54 : (m7.1 187 0).toInt = ((m5.1 187 0)).toInt := congrArg _ (g49.at (a := 187) (k := 0) (by decide))
          refine ⟨w8, rfl, ?_⟩
          have w55 : WT (uI m7 187 16 (0 : Int32)) := w_m7.t rfl (by show (0 : Int) ≤ (0 : Int); omega) (by show (0 : Int) ≤ 16; omega)
          have f55 : Fx (RS [20, 22, 24, 26, 28, 36, 37, 49]) m (uI m7 187 16 (0 : Int32)) := f_m7.i rfl
          refine (s_X12_power100 w55 (by show (0 : Int) ≤ (x2).toInt; omega) (by show (x2).toInt ≤ (6 : Int); omega)).to ?_
          rintro _ m9 ⟨w_m9, g56, w10, rfl, p57⟩
          have f_m9 : Fx (RS [20, 22, 24, 26, 28, 36, 37, 49]) m m9 := f55.tr g56 (RS_sub rfl)
          have p58 : w10 ≠ 0 := p57
          clear p57
          have e59 : (m9.1 187 11).toInt = ((m7.1 187 11)).toInt := congrArg _ (g56.at (a := 187) (k := 11) (by decide))
          have e60 : (m9.1 187 10).toInt = ((m7.1 187 10)).toInt := congrArg _ (g56.at (a := 187) (k := 10) (by decide))
          have e61 : (m9.1 187 16).toInt = (0 : Int) := congrArg _ (g56.at (a := 187) (k := 16) (by decide))
          have e62 : (m9.1 187 1).toInt = ((m7.1 187 1)).toInt := congrArg _ (g56.at (a := 187) (k := 1) (by decide))
          have e63 : (m9.1 187 0).toInt = ((m7.1 187 0)).toInt := congrArg _ (g56.at (a := 187) (k := 0) (by decide))
          refine ⟨w10, rfl, ?_⟩
          have r64 := w_m9.at (a := 187) (k := 16) rfl
          refine (s_X12_tellPart w_m9 (by assumption) (by show ((m9.1 187 16)).toInt ≤ 14; omega)).to ?_
          rintro _ m11 ⟨w_m11, g65, rfl, p66⟩
          have f_m11 : Fx (RS [20, 22, 24, 26, 28, 36, 37, 49]) m m11 := f_m9.tr g65 (RS_sub rfl)
          have p67 : (m11.1 187 16).toInt = ((m9.1 187 16)).toInt + 2 := p66
          clear p66
          have e68 : (m11.1 187 11).toInt = ((m9.1 187 11)).toInt := congrArg _ (g65.at (a := 187) (k := 11) (by decide))
          have e69 : (m11.1 187 10).toInt = ((m9.1 187 10)).toInt := congrArg _ (g65.at (a := 187) (k := 10) (by decide))
          have e70 : (m11.1 187 1).toInt = ((m9.1 187 1)).toInt := congrArg _ (g65.at (a := 187) (k := 1) (by decide))
          have e71 : (m11.1 187 0).toInt = ((m9.1 187 0)).toInt := congrArg _ (g65.at (a := 187) (k := 0) (by decide))
          refine ⟨rfl, ?_⟩
          exact ⟨w_m11, f_m11, _, rfl, (by show ((0 : Int) = 0 ∧ (0 ≤ x1.toInt ∧ x1.toInt < (m.1 187 1).toInt) ∧ (1 ≤ x2.toInt ∧ x2.toInt ≤ 6) ∧ (0 ≤ x3.toInt ∧ x3.toInt ≤ x2.toInt) ∧ (m.1 187 11).toInt ≠ 0) ∨ ((0 : Int) = -1 ∧ ¬ ((0 ≤ x1.toInt ∧ x1.toInt < (m.1 187 1).toInt) ∧ (1 ≤ x2.toInt ∧ x2.toInt ≤ 6) ∧ (0 ≤ x3.toInt ∧ x3.toInt ≤ x2.toInt) ∧ (m.1 187 11).toInt ≠ 0)); omega)⟩
        · intro c72
          have r73 := w_m5.at (a := 187) (k := 11) rfl
          have k74 := y_eqr (n := 0) rfl c72
          exact ⟨w_m5, f_m5, _, rfl, (by show ((-1 : Int) = 0 ∧ (0 ≤ x1.toInt ∧ x1.toInt < (m.1 187 1).toInt) ∧ (1 ≤ x2.toInt ∧ x2.toInt ≤ 6) ∧ (0 ≤ x3.toInt ∧ x3.toInt ≤ x2.toInt) ∧ (m.1 187 11).toInt ≠ 0) ∨ ((-1 : Int) = -1 ∧ ¬ ((0 ≤ x1.toInt ∧ x1.toInt < (m.1 187 1).toInt) ∧ (1 ≤ x2.toInt ∧ x2.toInt ≤ 6) ∧ (0 ≤ x3.toInt ∧ x3.toInt ≤ x2.toInt) ∧ (m.1 187 11).toInt ≠ 0)); omega)⟩
set_option maxHeartbeats 4000000 in
theorem s_X12_hopes {ad : Nat → Nat} {d : Nat} {m : Wm} {x1 : Int32} (w : WT m) (i1 : (m.1 187 11).toInt = 0 ∨ 1 ≤ (m.1 187 10).toInt) : Ct ad μX12_hopes (d + 191) [.ref (ad 187), .int x1] m (fun r m' => WT m' ∧ Fx (RS [20, 22, 24, 26, 28, 36, 37, 49]) m m' ∧ ∃ v : Int32, r = some (.int v) ∧ ((v.toInt = 0 ∧ (1 ≤ x1.toInt ∧ x1.toInt ≤ 6) ∧ (m.1 187 11).toInt ≠ 0) ∨ (v.toInt = -1 ∧ ¬ ((1 ≤ x1.toInt ∧ x1.toInt ≤ 6) ∧ (m.1 187 11).toInt ≠ 0)))) := by
  have f : Fx (RS [20, 22, 24, 26, 28, 36, 37, 49]) m m := Fx.rf
  refine v_X12_hopes  ?_
  have w1 : WT (uI m 187 17 (0 : Int32)) := w.n rfl
  have f1 : Fx (RS [20, 22, 24, 26, 28, 36, 37, 49]) m (uI m 187 17 (0 : Int32)) := f.i rfl
  refine (s_X12_in (x := x1) (lo := (1 : Int32)) (hi := (6 : Int32)) w1 rfl rfl).to ?_
  rintro _ m1 ⟨w_m1, g2, v2, rfl, p4, p5, p3⟩
  have f_m1 : Fx (RS [20, 22, 24, 26, 28, 36, 37, 49]) m m1 := f1.tr g2 (RS_sub rfl)
  have p6 : (v2.toInt = 0 ∧ ((x1).toInt < (1 : Int) ∨ (6 : Int) < (x1).toInt)) ∨ (v2.toInt = 1 ∧ (1 : Int) ≤ (x1).toInt ∧ (x1).toInt ≤ (6 : Int)) := p3
  clear p3
  have e7 : (m1.1 187 11).toInt = ((m.1 187 11)).toInt := congrArg _ (g2.at (a := 187) (k := 11) (by decide))
  have e8 : (m1.1 187 10).toInt = ((m.1 187 10)).toInt := congrArg _ (g2.at (a := 187) (k := 10) (by decide))
  have e9 : (m1.1 187 16).toInt = ((m.1 187 16)).toInt := congrArg _ (g2.at (a := 187) (k := 16) (by decide))
  have e10 : (m1.1 187 1).toInt = ((m.1 187 1)).toInt := congrArg _ (g2.at (a := 187) (k := 1) (by decide))
  have e11 : (m1.1 187 0).toInt = ((m.1 187 0)).toInt := congrArg _ (g2.at (a := 187) (k := 0) (by decide))
  refine ⟨v2, rfl, ?_⟩
  refine ⟨?_, ?_⟩
  · intro c12
    have k13 := y_eqr (n := 0) rfl c12
    exact ⟨w_m1, f_m1, _, rfl, (by show ((-1 : Int) = 0 ∧ (1 ≤ x1.toInt ∧ x1.toInt ≤ 6) ∧ (m.1 187 11).toInt ≠ 0) ∨ ((-1 : Int) = -1 ∧ ¬ ((1 ≤ x1.toInt ∧ x1.toInt ≤ 6) ∧ (m.1 187 11).toInt ≠ 0)); omega)⟩
  · intro c14
    have k15 := y_ner (n := 0) rfl c14
    refine ⟨?_, ?_⟩
    · intro c16
      have r17 := w_m1.at (a := 187) (k := 11) rfl
      have k18 := y_ner (n := 0) rfl c16
      have w19 : WT (uI m1 187 48 (256 : Int32)) := w_m1.n rfl
      have f19 : Fx (RS [20, 22, 24, 26, 28, 36, 37, 49]) m (uI m1 187 48 (256 : Int32)) := f_m1.i rfl
      have w20 : WT (uI (uI m1 187 48 (256 : Int32)) 187 49 (0 : Int32)) := w19.n rfl
      have f20 : Fx (RS [20, 22, 24, 26, 28, 36, 37, 49]) m (uI (uI m1 187 48 (256 : Int32)) 187 49 (0 : Int32)) := f19.i rfl
      have r21 := w_m1.at (a := 187) (k := 10) rfl
      refine (s_X12_hopeOf w20 (by show (0 : Int) ≤ (x1).toInt; omega) (by show (x1).toInt ≤ (6 : Int); omega) (by show 1 ≤ ((m1.1 187 10)).toInt; omega)).to ?_
      rintro _ m3 ⟨w_m3, g22, w4, rfl⟩
      have f_m3 : Fx (RS [20, 22, 24, 26, 28, 36, 37, 49]) m m3 := f20.tr g22 (RS_sub rfl)
      have e23 : (m3.1 187 11).toInt = ((m1.1 187 11)).toInt := congrArg _ (g22.at (a := 187) (k := 11) (by decide))
      have e24 : (m3.1 187 10).toInt = ((m1.1 187 10)).toInt := congrArg _ (g22.at (a := 187) (k := 10) (by decide))
      have e25 : (m3.1 187 16).toInt = ((m1.1 187 16)).toInt := congrArg _ (g22.at (a := 187) (k := 16) (by decide))
      have e26 : (m3.1 187 1).toInt = ((m1.1 187 1)).toInt := congrArg _ (g22.at (a := 187) (k := 1) (by decide))
      have e27 : (m3.1 187 0).toInt = ((m1.1 187 0)).toInt := congrArg _ (g22.at (a := 187) (k := 0) (by decide))
      refine ⟨w4, rfl, ?_⟩
      have w28 : WT (uI m3 187 16 (0 : Int32)) := w_m3.t rfl (by show (0 : Int) ≤ (0 : Int); omega) (by show (0 : Int) ≤ 16; omega)
      have f28 : Fx (RS [20, 22, 24, 26, 28, 36, 37, 49]) m (uI m3 187 16 (0 : Int32)) := f_m3.i rfl
      refine (s_X12_power100 w28 (by show (0 : Int) ≤ (x1).toInt; omega) (by show (x1).toInt ≤ (6 : Int); omega)).to ?_
      rintro _ m5 ⟨w_m5, g29, w6, rfl, p30⟩
      have f_m5 : Fx (RS [20, 22, 24, 26, 28, 36, 37, 49]) m m5 := f28.tr g29 (RS_sub rfl)
      have p31 : w6 ≠ 0 := p30
      clear p30
      have e32 : (m5.1 187 11).toInt = ((m3.1 187 11)).toInt := congrArg _ (g29.at (a := 187) (k := 11) (by decide))
      have e33 : (m5.1 187 10).toInt = ((m3.1 187 10)).toInt := congrArg _ (g29.at (a := 187) (k := 10) (by decide))
      have e34 : (m5.1 187 16).toInt = (0 : Int) := congrArg _ (g29.at (a := 187) (k := 16) (by decide))
      have e35 : (m5.1 187 1).toInt = ((m3.1 187 1)).toInt := congrArg _ (g29.at (a := 187) (k := 1) (by decide))
      have e36 : (m5.1 187 0).toInt = ((m3.1 187 0)).toInt := congrArg _ (g29.at (a := 187) (k := 0) (by decide))
      refine ⟨w6, rfl, ?_⟩
      have r37 := w_m5.at (a := 187) (k := 16) rfl
      refine (s_X12_tellPart w_m5 (by assumption) (by show ((m5.1 187 16)).toInt ≤ 14; omega)).to ?_
      rintro _ m7 ⟨w_m7, g38, rfl, p39⟩
      have f_m7 : Fx (RS [20, 22, 24, 26, 28, 36, 37, 49]) m m7 := f_m5.tr g38 (RS_sub rfl)
      have p40 : (m7.1 187 16).toInt = ((m5.1 187 16)).toInt + 2 := p39
      clear p39
      have e41 : (m7.1 187 11).toInt = ((m5.1 187 11)).toInt := congrArg _ (g38.at (a := 187) (k := 11) (by decide))
      have e42 : (m7.1 187 10).toInt = ((m5.1 187 10)).toInt := congrArg _ (g38.at (a := 187) (k := 10) (by decide))
      have e43 : (m7.1 187 1).toInt = ((m5.1 187 1)).toInt := congrArg _ (g38.at (a := 187) (k := 1) (by decide))
      have e44 : (m7.1 187 0).toInt = ((m5.1 187 0)).toInt := congrArg _ (g38.at (a := 187) (k := 0) (by decide))
      refine ⟨rfl, ?_⟩
      have r45 := w_m7.at (a := 187) (k := 16) rfl
      refine (s_X12_tell w_m7 (by show ((m7.1 187 16)).toInt ≤ 15; omega)).to ?_
      rintro _ m8 ⟨w_m8, g46, rfl, p47⟩
      have f_m8 : Fx (RS [20, 22, 24, 26, 28, 36, 37, 49]) m m8 := f_m7.tr g46 (RS_sub rfl)
      have p48 : (m8.1 187 16).toInt = ((m7.1 187 16)).toInt + 1 := p47
      clear p47
      have e49 : (m8.1 187 11).toInt = ((m7.1 187 11)).toInt := congrArg _ (g46.at (a := 187) (k := 11) (by decide))
      have e50 : (m8.1 187 10).toInt = ((m7.1 187 10)).toInt := congrArg _ (g46.at (a := 187) (k := 10) (by decide))
      have e51 : (m8.1 187 1).toInt = ((m7.1 187 1)).toInt := congrArg _ (g46.at (a := 187) (k := 1) (by decide))
      have e52 : (m8.1 187 0).toInt = ((m7.1 187 0)).toInt := congrArg _ (g46.at (a := 187) (k := 0) (by decide))
      refine ⟨rfl, ?_⟩
      have r53 := w_m8.at (a := 187) (k := 16) rfl
      refine (s_X12_tell w_m8 (by show ((m8.1 187 16)).toInt ≤ 15; omega)).to ?_
      rintro _ m9 ⟨w_m9, g54, rfl, p55⟩
      have f_m9 : Fx (RS [20, 22, 24, 26, 28, 36, 37, 49]) m m9 := f_m8.tr g54 (RS_sub rfl)
      have p56 : (m9.1 187 16).toInt = ((m8.1 187 16)).toInt + 1 := p55
      clear p55
      have e57 : (m9.1 187 11).toInt = ((m8.1 187 11)).toInt := congrArg _ (g54.at (a := 187) (k := 11) (by decide))
      have e58 : (m9.1 187 10).toInt = ((m8.1 187 10)).toInt := congrArg _ (g54.at (a := 187) (k := 10) (by decide))
      have e59 : (m9.1 187 1).toInt = ((m8.1 187 1)).toInt := congrArg _ (g54.at (a := 187) (k := 1) (by decide))
      have e60 : (m9.1 187 0).toInt = ((m8.1 187 0)).toInt := congrArg _ (g54.at (a := 187) (k := 0) (by decide))
      refine ⟨rfl, ?_⟩
      exact ⟨w_m9, f_m9, _, rfl, (by show ((0 : Int) = 0 ∧ (1 ≤ x1.toInt ∧ x1.toInt ≤ 6) ∧ (m.1 187 11).toInt ≠ 0) ∨ ((0 : Int) = -1 ∧ ¬ ((1 ≤ x1.toInt ∧ x1.toInt ≤ 6) ∧ (m.1 187 11).toInt ≠ 0)); omega)⟩
    · intro c61
      have r62 := w_m1.at (a := 187) (k := 11) rfl
      have k63 := y_eqr (n := 0) rfl c61
      exact ⟨w_m1, f_m1, _, rfl, (by show ((-1 : Int) = 0 ∧ (1 ≤ x1.toInt ∧ x1.toInt ≤ 6) ∧ (m.1 187 11).toInt ≠ 0) ∨ ((-1 : Int) = -1 ∧ ¬ ((1 ≤ x1.toInt ∧ x1.toInt ≤ 6) ∧ (m.1 187 11).toInt ≠ 0)); omega)⟩
set_option maxHeartbeats 4000000 in
theorem l_X12_best {ad : Nat → Nat} {d : Nat} {m0 : Wm}  : ∀ n : Nat, (∀ (m : Wm) (x1 x3 x4 x5 : Int32), WT m → Fx (RS [20, 22, 24, 26, 28, 34, 35, 49]) m0 m → (0 : Int) ≤ x1.toInt → x1.toInt ≤ (7 : Int) → (0 : Int) ≤ x3.toInt → x3.toInt ≤ (2999 : Int) → (0 : Int) ≤ x5.toInt → x5.toInt ≤ (3000 : Int) → 3000 - x5.toInt < (n : Int) → AW ad E0 μX12_best (d + 178) (fun r m' => WT m' ∧ Fx (RS [20, 22, 24, 26, 28, 34, 35, 49]) m0 m' ∧ ∃ v : Int32, r = some (.int v)) 46 [(0, .ref (ad 187)), (1, .int x1), (3, .int x3), (4, .int x4), (5, .int x5)] [] m) := by
  intro n
  induction n with
  | zero =>
    intros
    exfalso
    omega
  | succ n ih =>
    intro m x1 x3 x4 x5 w f j1 j2 j3 j4 j5 j6 hn
    refine g_X12_best_46  ?_
    refine ⟨?_, ?_⟩
    · intro c1
      have r2 := w.at (a := 187) (k := 43) rfl
      have k3 := z_le c1
      refine (s_X12_bring_204 w (by show (0 : Int) ≤ (0 : Int); omega) (by show (0 : Int) ≤ (0 : Int); omega)).to ?_
      rintro _ m1 ⟨w_m1, g4, rfl⟩
      have f_m1 : Fx (RS [20, 22, 24, 26, 28, 34, 35, 49]) m0 m1 := f.tr g4 (RS_sub rfl)
      have e5 : (m1.1 187 16).toInt = ((m.1 187 16)).toInt := congrArg _ (g4.at (a := 187) (k := 16) (by decide))
      have e6 : (m1.1 187 1).toInt = ((m.1 187 1)).toInt := congrArg _ (g4.at (a := 187) (k := 1) (by decide))
      have e7 : (m1.1 187 0).toInt = ((m.1 187 0)).toInt := congrArg _ (g4.at (a := 187) (k := 0) (by decide))
      refine ⟨rfl, ?_⟩
      refine ⟨?_, ?_⟩
      · exact vpi (by omega) (by omega)
      · have w8 : WT (uI m1 187 16 (0 : Int32)) := w_m1.t rfl (by show (0 : Int) ≤ (0 : Int); omega) (by show (0 : Int) ≤ 16; omega)
        have f8 : Fx (RS [20, 22, 24, 26, 28, 34, 35, 49]) m0 (uI m1 187 16 (0 : Int32)) := f_m1.i rfl
        refine (s_X12_tell w8 (by show (0 : Int) ≤ 15; omega)).to ?_
        rintro _ m2 ⟨w_m2, g9, rfl, p10⟩
        have f_m2 : Fx (RS [20, 22, 24, 26, 28, 34, 35, 49]) m0 m2 := f8.tr g9 (RS_sub rfl)
        have p11 : (m2.1 187 16).toInt = (0 : Int) + 1 := p10
        clear p10
        have e12 : (m2.1 187 1).toInt = ((m1.1 187 1)).toInt := congrArg _ (g9.at (a := 187) (k := 1) (by decide))
        have e13 : (m2.1 187 0).toInt = ((m1.1 187 0)).toInt := congrArg _ (g9.at (a := 187) (k := 0) (by decide))
        refine ⟨rfl, ?_⟩
        exact ⟨w_m2, f_m2, _, rfl⟩
    · intro c14
      have r15 := w.at (a := 187) (k := 43) rfl
      have k16 := z_nle c14
      refine (s_X12_load w (by show (0 : Int) ≤ (x5).toInt; omega) (by show (x5).toInt ≤ (2999 : Int); omega)).to ?_
      rintro _ m3 ⟨w_m3, g17, rfl⟩
      have f_m3 : Fx (RS [20, 22, 24, 26, 28, 34, 35, 49]) m0 m3 := f.tr g17 (RS_sub rfl)
      have e18 : (m3.1 187 16).toInt = ((m.1 187 16)).toInt := congrArg _ (g17.at (a := 187) (k := 16) (by decide))
      have e19 : (m3.1 187 1).toInt = ((m.1 187 1)).toInt := congrArg _ (g17.at (a := 187) (k := 1) (by decide))
      have e20 : (m3.1 187 0).toInt = ((m.1 187 0)).toInt := congrArg _ (g17.at (a := 187) (k := 0) (by decide))
      refine ⟨rfl, ?_⟩
      refine (s_X12_power w_m3 (by show (0 : Int) ≤ (x1).toInt; omega) (by show (x1).toInt ≤ (7 : Int); omega)).to ?_
      rintro _ m4 ⟨w_m4, g21, v5, rfl⟩
      have f_m4 : Fx (RS [20, 22, 24, 26, 28, 34, 35, 49]) m0 m4 := f_m3.tr g21 (RS_sub rfl)
      have e22 : (m4.1 187 16).toInt = ((m3.1 187 16)).toInt := congrArg _ (g21.at (a := 187) (k := 16) (by decide))
      have e23 : (m4.1 187 1).toInt = ((m3.1 187 1)).toInt := congrArg _ (g21.at (a := 187) (k := 1) (by decide))
      have e24 : (m4.1 187 0).toInt = ((m3.1 187 0)).toInt := congrArg _ (g21.at (a := 187) (k := 0) (by decide))
      refine ⟨v5, rfl, ?_⟩
      refine ⟨?_, ?_⟩
      · intro c25
        have k26 := y_ler (n := 0) rfl c25
        have t27 := ti_addc (x := x5) (y := (1 : Int32)) (c := 1) rfl (by omega)
        exact ih _ _ _ _ _ w_m4 f_m4 (by show (0 : Int) ≤ (x1).toInt; omega) (by show (x1).toInt ≤ (7 : Int); omega) (by show (0 : Int) ≤ (x5).toInt; omega) (by show (x5).toInt ≤ (2999 : Int); omega) (by show (0 : Int) ≤ ((x5 + (1 : Int32))).toInt; omega) (by show ((x5 + (1 : Int32))).toInt ≤ (3000 : Int); omega) (by show 3000 - ((x5 + (1 : Int32))).toInt < _; omega)
      · intro c28
        have k29 := y_nler (n := 0) rfl c28
        refine ⟨?_, ?_⟩
        · intro c30
          have k31 := z_lt c30
          have t32 := ti_addc (x := x5) (y := (1 : Int32)) (c := 1) rfl (by omega)
          exact ih _ _ _ _ _ w_m4 f_m4 (by show (0 : Int) ≤ (x1).toInt; omega) (by show (x1).toInt ≤ (7 : Int); omega) (by show (0 : Int) ≤ (x5).toInt; omega) (by show (x5).toInt ≤ (2999 : Int); omega) (by show (0 : Int) ≤ ((x5 + (1 : Int32))).toInt; omega) (by show ((x5 + (1 : Int32))).toInt ≤ (3000 : Int); omega) (by show 3000 - ((x5 + (1 : Int32))).toInt < _; omega)
        · intro c33
          have k34 := z_nlt c33
          have t35 := ti_addc (x := x5) (y := (1 : Int32)) (c := 1) rfl (by omega)
          exact ih _ _ _ _ _ w_m4 f_m4 (by show (0 : Int) ≤ (x1).toInt; omega) (by show (x1).toInt ≤ (7 : Int); omega) (by show (0 : Int) ≤ (x3).toInt; omega) (by show (x3).toInt ≤ (2999 : Int); omega) (by show (0 : Int) ≤ ((x5 + (1 : Int32))).toInt; omega) (by show ((x5 + (1 : Int32))).toInt ≤ (3000 : Int); omega) (by show 3000 - ((x5 + (1 : Int32))).toInt < _; omega)
set_option maxHeartbeats 4000000 in
theorem s_X12_best {ad : Nat → Nat} {d : Nat} {m : Wm} {x1 x2 : Int32} (w : WT m) : Ct ad μX12_best (d + 178) [.ref (ad 187), .int x1, .int x2] m (fun r m' => WT m' ∧ Fx (RS [20, 22, 24, 26, 28, 34, 35, 49]) m m' ∧ ∃ v : Int32, r = some (.int v)) := by
  have f : Fx (RS [20, 22, 24, 26, 28, 34, 35, 49]) m m := Fx.rf
  refine v_X12_best  ?_
  have w1 : WT (uI m 187 17 (0 : Int32)) := w.n rfl
  have f1 : Fx (RS [20, 22, 24, 26, 28, 34, 35, 49]) m (uI m 187 17 (0 : Int32)) := f.i rfl
  refine (s_X12_isSide w1).to ?_
  rintro _ m1 ⟨w_m1, g2, v2, rfl, p4, p5, p3⟩
  have f_m1 : Fx (RS [20, 22, 24, 26, 28, 34, 35, 49]) m m1 := f1.tr g2 (RS_sub rfl)
  have p6 : (v2.toInt = 0 ∧ ((x1).toInt < 0 ∨ ((m.1 187 1)).toInt ≤ (x1).toInt)) ∨ (v2.toInt = 1 ∧ 0 ≤ (x1).toInt ∧ (x1).toInt < ((m.1 187 1)).toInt) := p3
  clear p3
  have e7 : (m1.1 187 16).toInt = ((m.1 187 16)).toInt := congrArg _ (g2.at (a := 187) (k := 16) (by decide))
  have e8 : (m1.1 187 1).toInt = ((m.1 187 1)).toInt := congrArg _ (g2.at (a := 187) (k := 1) (by decide))
  have e9 : (m1.1 187 0).toInt = ((m.1 187 0)).toInt := congrArg _ (g2.at (a := 187) (k := 0) (by decide))
  refine ⟨v2, rfl, ?_⟩
  refine ⟨?_, ?_⟩
  · intro c10
    have k11 := y_eqr (n := 0) rfl c10
    exact ⟨w_m1, f_m1, _, rfl⟩
  · intro c12
    have k13 := y_ner (n := 0) rfl c12
    have r14 := w.at (a := 187) (k := 1) rfl
    refine (s_X12_in (x := x2) (lo := (0 : Int32)) (hi := (9 : Int32)) w_m1 rfl rfl).to ?_
    rintro _ m3 ⟨w_m3, g15, v4, rfl, p17, p18, p16⟩
    have f_m3 : Fx (RS [20, 22, 24, 26, 28, 34, 35, 49]) m m3 := f_m1.tr g15 (RS_sub rfl)
    have p19 : (v4.toInt = 0 ∧ ((x2).toInt < (0 : Int) ∨ (9 : Int) < (x2).toInt)) ∨ (v4.toInt = 1 ∧ (0 : Int) ≤ (x2).toInt ∧ (x2).toInt ≤ (9 : Int)) := p16
    clear p16
    have e20 : (m3.1 187 16).toInt = ((m1.1 187 16)).toInt := congrArg _ (g15.at (a := 187) (k := 16) (by decide))
    have e21 : (m3.1 187 1).toInt = ((m1.1 187 1)).toInt := congrArg _ (g15.at (a := 187) (k := 1) (by decide))
    have e22 : (m3.1 187 0).toInt = ((m1.1 187 0)).toInt := congrArg _ (g15.at (a := 187) (k := 0) (by decide))
    refine ⟨v4, rfl, ?_⟩
    refine ⟨?_, ?_⟩
    · intro c23
      have k24 := y_ner (n := 0) rfl c23
      refine (s_X12_findStates w_m3).to ?_
      rintro _ m5 ⟨w_m5, g25, v6, rfl, p27, p28, p26⟩
      have f_m5 : Fx (RS [20, 22, 24, 26, 28, 34, 35, 49]) m m5 := f_m3.tr g25 (RS_sub rfl)
      have p29 : 1 ≤ (m5.1 187 43).toInt := p26
      clear p26
      have e30 : (m5.1 187 16).toInt = ((m3.1 187 16)).toInt := congrArg _ (g25.at (a := 187) (k := 16) (by decide))
      have e31 : (m5.1 187 1).toInt = ((m3.1 187 1)).toInt := congrArg _ (g25.at (a := 187) (k := 1) (by decide))
      have e32 : (m5.1 187 0).toInt = ((m3.1 187 0)).toInt := congrArg _ (g25.at (a := 187) (k := 0) (by decide))
      refine ⟨v6, rfl, ?_⟩
      refine ⟨?_, ?_⟩
      · intro c33
        have k34 := y_ner (n := 0) rfl c33
        exact (l_X12_best (m0 := m) 1000000) _ _ _ _ _ w_m5 f_m5 (by show (0 : Int) ≤ (x1).toInt; omega) (by show (x1).toInt ≤ (7 : Int); omega) (by show (0 : Int) ≤ (0 : Int); omega) (by show (0 : Int) ≤ (2999 : Int); omega) (by show (0 : Int) ≤ (0 : Int); omega) (by show (0 : Int) ≤ (3000 : Int); omega) (by show 3000 - (0 : Int) < _; omega)
      · intro c35
        have k36 := y_eqr (n := 0) rfl c35
        exact ⟨w_m5, f_m5, _, rfl⟩
    · intro c37
      have k38 := y_eqr (n := 0) rfl c37
      exact ⟨w_m3, f_m3, _, rfl⟩
set_option maxHeartbeats 4000000 in
theorem l_X12_even {ad : Nat → Nat} {d : Nat} {m0 : Wm}  : ∀ n : Nat, (∀ (m : Wm) (x2 x3 x4 : Int32), WT m → Fx (RS [20, 22, 24, 26, 28, 34, 35, 49, 33]) m0 m → (0 : Int) ≤ x2.toInt → x2.toInt ≤ (2999 : Int) → (0 : Int) ≤ x4.toInt → x4.toInt ≤ (3000 : Int) → 3000 - x4.toInt < (n : Int) → AW ad E0 μX12_even (d + 178) (fun r m' => WT m' ∧ Fx (RS [20, 22, 24, 26, 28, 34, 35, 49, 33]) m0 m' ∧ ∃ v : Int32, r = some (.int v)) 44 [(0, .ref (ad 187)), (2, .int x2), (3, .int x3), (4, .int x4)] [] m) := by
  intro n
  induction n with
  | zero =>
    intros
    exfalso
    omega
  | succ n ih =>
    intro m x2 x3 x4 w f j1 j2 j3 j4 hn
    refine g_X12_even_44  ?_
    refine ⟨?_, ?_⟩
    · intro c1
      have r2 := w.at (a := 187) (k := 43) rfl
      have k3 := z_le c1
      refine (s_X12_bring_204 w (by show (0 : Int) ≤ (0 : Int); omega) (by show (0 : Int) ≤ (0 : Int); omega)).to ?_
      rintro _ m1 ⟨w_m1, g4, rfl⟩
      have f_m1 : Fx (RS [20, 22, 24, 26, 28, 34, 35, 49, 33]) m0 m1 := f.tr g4 (RS_sub rfl)
      have e5 : (m1.1 187 16).toInt = ((m.1 187 16)).toInt := congrArg _ (g4.at (a := 187) (k := 16) (by decide))
      have e6 : (m1.1 187 1).toInt = ((m.1 187 1)).toInt := congrArg _ (g4.at (a := 187) (k := 1) (by decide))
      have e7 : (m1.1 187 0).toInt = ((m.1 187 0)).toInt := congrArg _ (g4.at (a := 187) (k := 0) (by decide))
      refine ⟨rfl, ?_⟩
      refine ⟨?_, ?_⟩
      · exact vpi (by omega) (by omega)
      · have w8 : WT (uI m1 187 16 (0 : Int32)) := w_m1.t rfl (by show (0 : Int) ≤ (0 : Int); omega) (by show (0 : Int) ≤ 16; omega)
        have f8 : Fx (RS [20, 22, 24, 26, 28, 34, 35, 49, 33]) m0 (uI m1 187 16 (0 : Int32)) := f_m1.i rfl
        refine (s_X12_tell w8 (by show (0 : Int) ≤ 15; omega)).to ?_
        rintro _ m2 ⟨w_m2, g9, rfl, p10⟩
        have f_m2 : Fx (RS [20, 22, 24, 26, 28, 34, 35, 49, 33]) m0 m2 := f8.tr g9 (RS_sub rfl)
        have p11 : (m2.1 187 16).toInt = (0 : Int) + 1 := p10
        clear p10
        have e12 : (m2.1 187 1).toInt = ((m1.1 187 1)).toInt := congrArg _ (g9.at (a := 187) (k := 1) (by decide))
        have e13 : (m2.1 187 0).toInt = ((m1.1 187 0)).toInt := congrArg _ (g9.at (a := 187) (k := 0) (by decide))
        refine ⟨rfl, ?_⟩
        exact ⟨w_m2, f_m2, _, rfl⟩
    · intro c14
      have r15 := w.at (a := 187) (k := 43) rfl
      have k16 := z_nle c14
      refine (s_X12_load w (by show (0 : Int) ≤ (x4).toInt; omega) (by show (x4).toInt ≤ (2999 : Int); omega)).to ?_
      rintro _ m3 ⟨w_m3, g17, rfl⟩
      have f_m3 : Fx (RS [20, 22, 24, 26, 28, 34, 35, 49, 33]) m0 m3 := f.tr g17 (RS_sub rfl)
      have e18 : (m3.1 187 16).toInt = ((m.1 187 16)).toInt := congrArg _ (g17.at (a := 187) (k := 16) (by decide))
      have e19 : (m3.1 187 1).toInt = ((m.1 187 1)).toInt := congrArg _ (g17.at (a := 187) (k := 1) (by decide))
      have e20 : (m3.1 187 0).toInt = ((m.1 187 0)).toInt := congrArg _ (g17.at (a := 187) (k := 0) (by decide))
      refine ⟨rfl, ?_⟩
      refine (s_X12_spreadNow w_m3).to ?_
      rintro _ m4 ⟨w_m4, g21, v5, rfl⟩
      have f_m4 : Fx (RS [20, 22, 24, 26, 28, 34, 35, 49, 33]) m0 m4 := f_m3.tr g21 (RS_sub rfl)
      have e22 : (m4.1 187 16).toInt = ((m3.1 187 16)).toInt := congrArg _ (g21.at (a := 187) (k := 16) (by decide))
      have e23 : (m4.1 187 1).toInt = ((m3.1 187 1)).toInt := congrArg _ (g21.at (a := 187) (k := 1) (by decide))
      have e24 : (m4.1 187 0).toInt = ((m3.1 187 0)).toInt := congrArg _ (g21.at (a := 187) (k := 0) (by decide))
      refine ⟨v5, rfl, ?_⟩
      refine ⟨?_, ?_⟩
      · intro c25
        have k26 := y_ler (n := 0) rfl c25
        have t27 := ti_addc (x := x4) (y := (1 : Int32)) (c := 1) rfl (by omega)
        exact ih _ _ _ _ w_m4 f_m4 (by show (0 : Int) ≤ (x4).toInt; omega) (by show (x4).toInt ≤ (2999 : Int); omega) (by show (0 : Int) ≤ ((x4 + (1 : Int32))).toInt; omega) (by show ((x4 + (1 : Int32))).toInt ≤ (3000 : Int); omega) (by show 3000 - ((x4 + (1 : Int32))).toInt < _; omega)
      · intro c28
        have k29 := y_nler (n := 0) rfl c28
        refine ⟨?_, ?_⟩
        · intro c30
          have k31 := z_lt c30
          have t32 := ti_addc (x := x4) (y := (1 : Int32)) (c := 1) rfl (by omega)
          exact ih _ _ _ _ w_m4 f_m4 (by show (0 : Int) ≤ (x4).toInt; omega) (by show (x4).toInt ≤ (2999 : Int); omega) (by show (0 : Int) ≤ ((x4 + (1 : Int32))).toInt; omega) (by show ((x4 + (1 : Int32))).toInt ≤ (3000 : Int); omega) (by show 3000 - ((x4 + (1 : Int32))).toInt < _; omega)
        · intro c33
          have k34 := z_nlt c33
          have t35 := ti_addc (x := x4) (y := (1 : Int32)) (c := 1) rfl (by omega)
          exact ih _ _ _ _ w_m4 f_m4 (by show (0 : Int) ≤ (x2).toInt; omega) (by show (x2).toInt ≤ (2999 : Int); omega) (by show (0 : Int) ≤ ((x4 + (1 : Int32))).toInt; omega) (by show ((x4 + (1 : Int32))).toInt ≤ (3000 : Int); omega) (by show 3000 - ((x4 + (1 : Int32))).toInt < _; omega)
set_option maxHeartbeats 4000000 in
theorem s_X12_even {ad : Nat → Nat} {d : Nat} {m : Wm} {x1 : Int32} (w : WT m) : Ct ad μX12_even (d + 178) [.ref (ad 187), .int x1] m (fun r m' => WT m' ∧ Fx (RS [20, 22, 24, 26, 28, 34, 35, 49, 33]) m m' ∧ ∃ v : Int32, r = some (.int v)) := by
  have f : Fx (RS [20, 22, 24, 26, 28, 34, 35, 49, 33]) m m := Fx.rf
  refine v_X12_even  ?_
  have w1 : WT (uI m 187 17 (0 : Int32)) := w.n rfl
  have f1 : Fx (RS [20, 22, 24, 26, 28, 34, 35, 49, 33]) m (uI m 187 17 (0 : Int32)) := f.i rfl
  refine (s_X12_in (x := x1) (lo := (0 : Int32)) (hi := (9 : Int32)) w1 rfl rfl).to ?_
  rintro _ m1 ⟨w_m1, g2, v2, rfl, p4, p5, p3⟩
  have f_m1 : Fx (RS [20, 22, 24, 26, 28, 34, 35, 49, 33]) m m1 := f1.tr g2 (RS_sub rfl)
  have p6 : (v2.toInt = 0 ∧ ((x1).toInt < (0 : Int) ∨ (9 : Int) < (x1).toInt)) ∨ (v2.toInt = 1 ∧ (0 : Int) ≤ (x1).toInt ∧ (x1).toInt ≤ (9 : Int)) := p3
  clear p3
  have e7 : (m1.1 187 16).toInt = ((m.1 187 16)).toInt := congrArg _ (g2.at (a := 187) (k := 16) (by decide))
  have e8 : (m1.1 187 1).toInt = ((m.1 187 1)).toInt := congrArg _ (g2.at (a := 187) (k := 1) (by decide))
  have e9 : (m1.1 187 0).toInt = ((m.1 187 0)).toInt := congrArg _ (g2.at (a := 187) (k := 0) (by decide))
  refine ⟨v2, rfl, ?_⟩
  refine ⟨?_, ?_⟩
  · intro c10
    have k11 := y_eqr (n := 0) rfl c10
    exact ⟨w_m1, f_m1, _, rfl⟩
  · intro c12
    have k13 := y_ner (n := 0) rfl c12
    refine ⟨?_, ?_⟩
    · intro c14
      have r15 := w_m1.at (a := 187) (k := 1) rfl
      have k16 := y_ner (n := 0) rfl c14
      refine (s_X12_findStates w_m1).to ?_
      rintro _ m3 ⟨w_m3, g17, v4, rfl, p19, p20, p18⟩
      have f_m3 : Fx (RS [20, 22, 24, 26, 28, 34, 35, 49, 33]) m m3 := f_m1.tr g17 (RS_sub rfl)
      have p21 : 1 ≤ (m3.1 187 43).toInt := p18
      clear p18
      have e22 : (m3.1 187 16).toInt = ((m1.1 187 16)).toInt := congrArg _ (g17.at (a := 187) (k := 16) (by decide))
      have e23 : (m3.1 187 1).toInt = ((m1.1 187 1)).toInt := congrArg _ (g17.at (a := 187) (k := 1) (by decide))
      have e24 : (m3.1 187 0).toInt = ((m1.1 187 0)).toInt := congrArg _ (g17.at (a := 187) (k := 0) (by decide))
      refine ⟨v4, rfl, ?_⟩
      refine ⟨?_, ?_⟩
      · intro c25
        have k26 := y_ner (n := 0) rfl c25
        exact (l_X12_even (m0 := m) 1000000) _ _ _ _ w_m3 f_m3 (by show (0 : Int) ≤ (0 : Int); omega) (by show (0 : Int) ≤ (2999 : Int); omega) (by show (0 : Int) ≤ (0 : Int); omega) (by show (0 : Int) ≤ (3000 : Int); omega) (by show 3000 - (0 : Int) < _; omega)
      · intro c27
        have k28 := y_eqr (n := 0) rfl c27
        exact ⟨w_m3, f_m3, _, rfl⟩
    · intro c29
      have r30 := w_m1.at (a := 187) (k := 1) rfl
      have k31 := y_eqr (n := 0) rfl c29
      exact ⟨w_m1, f_m1, _, rfl⟩
set_option maxHeartbeats 4000000 in
theorem l_X12_all {ad : Nat → Nat} {d : Nat} {m0 : Wm}  : ∀ n : Nat, (∀ (m : Wm) (x1 x2 x3 : Int32), WT m → Fx (RS [20, 22, 24, 26, 28, 34, 35, 49]) m0 m → (0 : Int) ≤ x3.toInt → x3.toInt ≤ (3000 : Int) → (1 ≤ (m.1 187 43).toInt) → 3000 - x3.toInt < (n : Int) → AW ad E0 μX12_all (d + 178) (fun r m' => WT m' ∧ Fx (RS [20, 22, 24, 26, 28, 34, 35, 49]) m0 m' ∧ ∃ v : Int32, r = some (.int v)) 26 [(0, .ref (ad 187)), (1, .int x1), (2, .int x2), (3, .int x3)] [] m) := by
  intro n
  induction n with
  | zero =>
    intros
    exfalso
    omega
  | succ n ih =>
    intro m x1 x2 x3 w f j1 j2 j3 hn
    refine g_X12_all_26  ?_
    refine ⟨?_, ?_⟩
    · intro c1
      have r2 := w.at (a := 187) (k := 43) rfl
      have k3 := z_le c1
      refine (s_X12_bring_204 w (by show (0 : Int) ≤ (0 : Int); omega) (by show (0 : Int) ≤ (0 : Int); omega)).to ?_
      rintro _ m1 ⟨w_m1, g4, rfl⟩
      have f_m1 : Fx (RS [20, 22, 24, 26, 28, 34, 35, 49]) m0 m1 := f.tr g4 (RS_sub rfl)
      have e5 : (m1.1 187 16).toInt = ((m.1 187 16)).toInt := congrArg _ (g4.at (a := 187) (k := 16) (by decide))
      have e6 : (m1.1 187 43).toInt = ((m.1 187 43)).toInt := congrArg _ (g4.at (a := 187) (k := 43) (by decide))
      have e7 : (m1.1 187 1).toInt = ((m.1 187 1)).toInt := congrArg _ (g4.at (a := 187) (k := 1) (by decide))
      have e8 : (m1.1 187 0).toInt = ((m.1 187 0)).toInt := congrArg _ (g4.at (a := 187) (k := 0) (by decide))
      refine ⟨rfl, ?_⟩
      have w9 : WT (uI m1 187 16 (0 : Int32)) := w_m1.t rfl (by show (0 : Int) ≤ (0 : Int); omega) (by show (0 : Int) ≤ 16; omega)
      have f9 : Fx (RS [20, 22, 24, 26, 28, 34, 35, 49]) m0 (uI m1 187 16 (0 : Int32)) := f_m1.i rfl
      refine (s_X12_tell w9 (by show (0 : Int) ≤ 15; omega)).to ?_
      rintro _ m2 ⟨w_m2, g10, rfl, p11⟩
      have f_m2 : Fx (RS [20, 22, 24, 26, 28, 34, 35, 49]) m0 m2 := f9.tr g10 (RS_sub rfl)
      have p12 : (m2.1 187 16).toInt = (0 : Int) + 1 := p11
      clear p11
      have e13 : (m2.1 187 43).toInt = ((m1.1 187 43)).toInt := congrArg _ (g10.at (a := 187) (k := 43) (by decide))
      have e14 : (m2.1 187 1).toInt = ((m1.1 187 1)).toInt := congrArg _ (g10.at (a := 187) (k := 1) (by decide))
      have e15 : (m2.1 187 0).toInt = ((m1.1 187 0)).toInt := congrArg _ (g10.at (a := 187) (k := 0) (by decide))
      refine ⟨rfl, ?_⟩
      have r16 := w_m2.at (a := 187) (k := 16) rfl
      refine (s_X12_tell w_m2 (by show ((m2.1 187 16)).toInt ≤ 15; omega)).to ?_
      rintro _ m3 ⟨w_m3, g17, rfl, p18⟩
      have f_m3 : Fx (RS [20, 22, 24, 26, 28, 34, 35, 49]) m0 m3 := f_m2.tr g17 (RS_sub rfl)
      have p19 : (m3.1 187 16).toInt = ((m2.1 187 16)).toInt + 1 := p18
      clear p18
      have e20 : (m3.1 187 43).toInt = ((m2.1 187 43)).toInt := congrArg _ (g17.at (a := 187) (k := 43) (by decide))
      have e21 : (m3.1 187 1).toInt = ((m2.1 187 1)).toInt := congrArg _ (g17.at (a := 187) (k := 1) (by decide))
      have e22 : (m3.1 187 0).toInt = ((m2.1 187 0)).toInt := congrArg _ (g17.at (a := 187) (k := 0) (by decide))
      refine ⟨rfl, ?_⟩
      refine ⟨?_, ?_⟩
      · have r23 := w_m3.at (a := 187) (k := 43) rfl
        have t24 := ti_subc (x := (m3.1 187 43)) (y := (1 : Int32)) (c := 1) rfl (by omega)
        exact vpi (by omega) (by omega)
      · have r25 := w_m3.at (a := 187) (k := 16) rfl
        refine (s_X12_tell w_m3 (by show ((m3.1 187 16)).toInt ≤ 15; omega)).to ?_
        rintro _ m4 ⟨w_m4, g26, rfl, p27⟩
        have f_m4 : Fx (RS [20, 22, 24, 26, 28, 34, 35, 49]) m0 m4 := f_m3.tr g26 (RS_sub rfl)
        have p28 : (m4.1 187 16).toInt = ((m3.1 187 16)).toInt + 1 := p27
        clear p27
        have e29 : (m4.1 187 43).toInt = ((m3.1 187 43)).toInt := congrArg _ (g26.at (a := 187) (k := 43) (by decide))
        have e30 : (m4.1 187 1).toInt = ((m3.1 187 1)).toInt := congrArg _ (g26.at (a := 187) (k := 1) (by decide))
        have e31 : (m4.1 187 0).toInt = ((m3.1 187 0)).toInt := congrArg _ (g26.at (a := 187) (k := 0) (by decide))
        refine ⟨rfl, ?_⟩
        have r32 := w_m4.at (a := 187) (k := 43) rfl
        exact ⟨w_m4, f_m4, _, rfl⟩
    · intro c33
      have r34 := w.at (a := 187) (k := 43) rfl
      have k35 := z_nle c33
      refine (s_X12_load w (by show (0 : Int) ≤ (x3).toInt; omega) (by show (x3).toInt ≤ (2999 : Int); omega)).to ?_
      rintro _ m5 ⟨w_m5, g36, rfl⟩
      have f_m5 : Fx (RS [20, 22, 24, 26, 28, 34, 35, 49]) m0 m5 := f.tr g36 (RS_sub rfl)
      have e37 : (m5.1 187 16).toInt = ((m.1 187 16)).toInt := congrArg _ (g36.at (a := 187) (k := 16) (by decide))
      have e38 : (m5.1 187 43).toInt = ((m.1 187 43)).toInt := congrArg _ (g36.at (a := 187) (k := 43) (by decide))
      have e39 : (m5.1 187 1).toInt = ((m.1 187 1)).toInt := congrArg _ (g36.at (a := 187) (k := 1) (by decide))
      have e40 : (m5.1 187 0).toInt = ((m.1 187 0)).toInt := congrArg _ (g36.at (a := 187) (k := 0) (by decide))
      refine ⟨rfl, ?_⟩
      refine (s_X12_sumOfAll w_m5).to ?_
      rintro _ m6 ⟨w_m6, g41, v7, rfl⟩
      have f_m6 : Fx (RS [20, 22, 24, 26, 28, 34, 35, 49]) m0 m6 := f_m5.tr g41 (RS_sub rfl)
      have e42 : (m6.1 187 16).toInt = ((m5.1 187 16)).toInt := congrArg _ (g41.at (a := 187) (k := 16) (by decide))
      have e43 : (m6.1 187 43).toInt = ((m5.1 187 43)).toInt := congrArg _ (g41.at (a := 187) (k := 43) (by decide))
      have e44 : (m6.1 187 1).toInt = ((m5.1 187 1)).toInt := congrArg _ (g41.at (a := 187) (k := 1) (by decide))
      have e45 : (m6.1 187 0).toInt = ((m5.1 187 0)).toInt := congrArg _ (g41.at (a := 187) (k := 0) (by decide))
      refine ⟨v7, rfl, ?_⟩
      have t46 := ti_addc (x := x3) (y := (1 : Int32)) (c := 1) rfl (by omega)
      have r47 := w_m6.at (a := 187) (k := 43) rfl
      exact ih _ _ _ _ w_m6 f_m6 (by show (0 : Int) ≤ ((x3 + (1 : Int32))).toInt; omega) (by show ((x3 + (1 : Int32))).toInt ≤ (3000 : Int); omega) (by show 1 ≤ ((m6.1 187 43)).toInt; omega) (by show 3000 - ((x3 + (1 : Int32))).toInt < _; omega)
set_option maxHeartbeats 4000000 in
theorem s_X12_all {ad : Nat → Nat} {d : Nat} {m : Wm} (w : WT m) : Ct ad μX12_all (d + 178) [.ref (ad 187)] m (fun r m' => WT m' ∧ Fx (RS [20, 22, 24, 26, 28, 34, 35, 49]) m m' ∧ ∃ v : Int32, r = some (.int v)) := by
  have f : Fx (RS [20, 22, 24, 26, 28, 34, 35, 49]) m m := Fx.rf
  refine v_X12_all  ?_
  have w1 : WT (uI m 187 17 (0 : Int32)) := w.n rfl
  have f1 : Fx (RS [20, 22, 24, 26, 28, 34, 35, 49]) m (uI m 187 17 (0 : Int32)) := f.i rfl
  refine (s_X12_findStates w1).to ?_
  rintro _ m1 ⟨w_m1, g2, v2, rfl, p4, p5, p3⟩
  have f_m1 : Fx (RS [20, 22, 24, 26, 28, 34, 35, 49]) m m1 := f1.tr g2 (RS_sub rfl)
  have p6 : 1 ≤ (m1.1 187 43).toInt := p3
  clear p3
  have e7 : (m1.1 187 16).toInt = ((m.1 187 16)).toInt := congrArg _ (g2.at (a := 187) (k := 16) (by decide))
  have e8 : (m1.1 187 1).toInt = ((m.1 187 1)).toInt := congrArg _ (g2.at (a := 187) (k := 1) (by decide))
  have e9 : (m1.1 187 0).toInt = ((m.1 187 0)).toInt := congrArg _ (g2.at (a := 187) (k := 0) (by decide))
  refine ⟨v2, rfl, ?_⟩
  refine ⟨?_, ?_⟩
  · intro c10
    have k11 := y_ner (n := 0) rfl c10
    have r12 := w_m1.at (a := 187) (k := 43) rfl
    exact (l_X12_all (m0 := m) 1000000) _ _ _ _ w_m1 f_m1 (by show (0 : Int) ≤ (0 : Int); omega) (by show (0 : Int) ≤ (3000 : Int); omega) (by show 1 ≤ ((m1.1 187 43)).toInt; omega) (by show 3000 - (0 : Int) < _; omega)
  · intro c13
    have k14 := y_eqr (n := 0) rfl c13
    exact ⟨w_m1, f_m1, _, rfl⟩
