/-! THE NUMBER OF THE ROW, BY PROGRAM -/
set_option maxHeartbeats 4000000 in
theorem n_X11_tell {ad : Nat → Nat} {d : Nat} {m : Wm} {y1 : Int64} (w : WT m) : Ct ad μX11_tell d [.ref (ad 0), .long y1] m (fun r m' => WT m' ∧ Fx (RS [9]) m m' ∧ r = none ∧ ((m'.1 0 18).toInt = 1)) := by
  have f : Fx (RS [9]) m m := Fx.rf
  refine v_X11_tell  ?_
  have w1 : WT (uL m 150 ((0 : Int32).toNatClampNeg) y1) := w.l
  have f1 : Fx (RS [9]) m (uL m 150 ((0 : Int32).toNatClampNeg) y1) := f.l rfl
  have w2 : WT (uI (uL m 150 ((0 : Int32).toNatClampNeg) y1) 0 18 (1 : Int32)) := w1.t rfl (by show (0 : Int) ≤ (1 : Int); omega) (by show (1 : Int) ≤ 10; omega)
  have f2 : Fx (RS [9]) m (uI (uL m 150 ((0 : Int32).toNatClampNeg) y1) 0 18 (1 : Int32)) := f1.i rfl
  exact ⟨w2, f2, rfl, (by show (1 : Int) = 1; omega)⟩
set_option maxHeartbeats 4000000 in
theorem n_X11_tell_ {ad : Nat → Nat} {d : Nat} {m : Wm} {y1 y3 : Int64} (w : WT m) : Ct ad μX11_tell_ d [.ref (ad 0), .long y1, .long y3] m (fun r m' => WT m' ∧ Fx (RS [9]) m m' ∧ r = none ∧ ((m'.1 0 18).toInt = 2)) := by
  have f : Fx (RS [9]) m m := Fx.rf
  refine v_X11_tell_  ?_
  have w1 : WT (uL m 150 ((0 : Int32).toNatClampNeg) y1) := w.l
  have f1 : Fx (RS [9]) m (uL m 150 ((0 : Int32).toNatClampNeg) y1) := f.l rfl
  have w2 : WT (uL (uL m 150 ((0 : Int32).toNatClampNeg) y1) 150 ((1 : Int32).toNatClampNeg) y3) := w1.l
  have f2 : Fx (RS [9]) m (uL (uL m 150 ((0 : Int32).toNatClampNeg) y1) 150 ((1 : Int32).toNatClampNeg) y3) := f1.l rfl
  have w3 : WT (uI (uL (uL m 150 ((0 : Int32).toNatClampNeg) y1) 150 ((1 : Int32).toNatClampNeg) y3) 0 18 (2 : Int32)) := w2.t rfl (by show (0 : Int) ≤ (2 : Int); omega) (by show (2 : Int) ≤ 10; omega)
  have f3 : Fx (RS [9]) m (uI (uL (uL m 150 ((0 : Int32).toNatClampNeg) y1) 150 ((1 : Int32).toNatClampNeg) y3) 0 18 (2 : Int32)) := f2.i rfl
  exact ⟨w3, f3, rfl, (by show (2 : Int) = 2; omega)⟩
set_option maxHeartbeats 4000000 in
theorem n_X11_tell__ {ad : Nat → Nat} {d : Nat} {m : Wm} {y1 y3 y5 : Int64} (w : WT m) : Ct ad μX11_tell__ d [.ref (ad 0), .long y1, .long y3, .long y5] m (fun r m' => WT m' ∧ Fx (RS [9]) m m' ∧ r = none ∧ ((m'.1 0 18).toInt = 3)) := by
  have f : Fx (RS [9]) m m := Fx.rf
  refine v_X11_tell__  ?_
  have w1 : WT (uL m 150 ((0 : Int32).toNatClampNeg) y1) := w.l
  have f1 : Fx (RS [9]) m (uL m 150 ((0 : Int32).toNatClampNeg) y1) := f.l rfl
  have w2 : WT (uL (uL m 150 ((0 : Int32).toNatClampNeg) y1) 150 ((1 : Int32).toNatClampNeg) y3) := w1.l
  have f2 : Fx (RS [9]) m (uL (uL m 150 ((0 : Int32).toNatClampNeg) y1) 150 ((1 : Int32).toNatClampNeg) y3) := f1.l rfl
  have w3 : WT (uL (uL (uL m 150 ((0 : Int32).toNatClampNeg) y1) 150 ((1 : Int32).toNatClampNeg) y3) 150 ((2 : Int32).toNatClampNeg) y5) := w2.l
  have f3 : Fx (RS [9]) m (uL (uL (uL m 150 ((0 : Int32).toNatClampNeg) y1) 150 ((1 : Int32).toNatClampNeg) y3) 150 ((2 : Int32).toNatClampNeg) y5) := f2.l rfl
  have w4 : WT (uI (uL (uL (uL m 150 ((0 : Int32).toNatClampNeg) y1) 150 ((1 : Int32).toNatClampNeg) y3) 150 ((2 : Int32).toNatClampNeg) y5) 0 18 (3 : Int32)) := w3.t rfl (by show (0 : Int) ≤ (3 : Int); omega) (by show (3 : Int) ≤ 10; omega)
  have f4 : Fx (RS [9]) m (uI (uL (uL (uL m 150 ((0 : Int32).toNatClampNeg) y1) 150 ((1 : Int32).toNatClampNeg) y3) 150 ((2 : Int32).toNatClampNeg) y5) 0 18 (3 : Int32)) := f3.i rfl
  exact ⟨w4, f4, rfl, (by show (3 : Int) = 3; omega)⟩
set_option maxHeartbeats 4000000 in
theorem nl_X11_tellFraction {ad : Nat → Nat} {d : Nat} {m0 : Wm}  : ∀ n : Nat, (∀ (m : Wm) (x9 : Int32) (y1 y3 y5 y7 : Int64), WT m → Fx (RS [9]) m0 m → (0 : Int) ≤ x9.toInt → x9.toInt ≤ (200 : Int) → 200 - x9.toInt + 1 < (n : Int) → AW ad E0 μX11_tellFraction (d + 1) (fun r m' => WT m' ∧ Fx (RS [9]) m0 m' ∧ r = none ∧ ((m'.1 0 18).toInt = 2)) 9 [(0, .ref (ad 0)), (1, .long y1), (3, .long y3), (5, .long y5), (7, .long y7), (9, .int x9)] [] m) ∧ (∀ (m : Wm) (y1 y3 y5 : Int64), WT m → Fx (RS [9]) m0 m → 0 + 0 < (n : Int) → AW ad E0 μX11_tellFraction (d + 1) (fun r m' => WT m' ∧ Fx (RS [9]) m0 m' ∧ r = none ∧ ((m'.1 0 18).toInt = 2)) 45 [(0, .ref (ad 0)), (1, .long y1), (3, .long y3), (5, .long y5)] [] m) := by
  intro n
  induction n with
  | zero =>
    refine ⟨?_, ?_⟩ <;> intros <;> exfalso <;> omega
  | succ n ih =>
    refine ⟨?_, ?_⟩
    · intro m x9 y1 y3 y5 y7 w f j1 j2 hn
      refine g_X11_tellFraction_9  ?_
      refine ⟨?_, ?_⟩
      · intro c1
        have k2 := y_lel (n := 200) rfl c1
        exact ih.2 _ _ _ _ w f (by show 0 + 0 < _; omega)
      · intro c3
        have k4 := y_nlel (n := 200) rfl c3
        refine ⟨?_, ?_⟩
        · intro c5
          exact ih.2 _ _ _ _ w f (by show 0 + 0 < _; omega)
        · intro c6
          refine ⟨?_, ?_⟩
          · exact fun q => c6 ((lg_cmp_eq _ _).mpr q)
          · have t7 := ti_addc (x := x9) (y := (1 : Int32)) (c := 1) rfl (by omega)
            exact ih.1 _ _ _ _ _ _ w f (by show (0 : Int) ≤ ((x9 + (1 : Int32))).toInt; omega) (by show ((x9 + (1 : Int32))).toInt ≤ (200 : Int); omega) (by show 200 - ((x9 + (1 : Int32))).toInt + 1 < _; omega)
    · intro m y1 y3 y5 w f  hn
      refine g_X11_tellFraction_45  ?_
      refine ⟨?_, ?_⟩
      · intro c1
        refine ⟨?_, ?_⟩
        · exact fun q => c1 ((lg_cmp_eq _ _).mpr q)
        · refine ⟨?_, ?_⟩
          · exact fun q => c1 ((lg_cmp_eq _ _).mpr q)
          · refine (n_X11_tell_ w).to ?_
            rintro _ m1 ⟨w_m1, g2, rfl, p3⟩
            have f_m1 : Fx (RS [9]) m0 m1 := f.tr g2 (RS_sub rfl)
            have p4 : (m1.1 0 18).toInt = 2 := p3
            clear p3
            have e5 : (m1.1 3 3).toInt = ((m.1 3 3)).toInt := congrArg _ (g2.at (a := 3) (k := 3) (by decide))
            refine ⟨rfl, ?_⟩
            have r6 := w_m1.at (a := 0) (k := 18) rfl
            exact ⟨w_m1, f_m1, rfl, (by show ((m1.1 0 18)).toInt = 2; omega)⟩
      · intro c7
        refine (n_X11_tell_ w).to ?_
        rintro _ m2 ⟨w_m2, g8, rfl, p9⟩
        have f_m2 : Fx (RS [9]) m0 m2 := f.tr g8 (RS_sub rfl)
        have p10 : (m2.1 0 18).toInt = 2 := p9
        clear p9
        have e11 : (m2.1 3 3).toInt = ((m.1 3 3)).toInt := congrArg _ (g8.at (a := 3) (k := 3) (by decide))
        refine ⟨rfl, ?_⟩
        have r12 := w_m2.at (a := 0) (k := 18) rfl
        exact ⟨w_m2, f_m2, rfl, (by show ((m2.1 0 18)).toInt = 2; omega)⟩
set_option maxHeartbeats 4000000 in
theorem n_X11_tellFraction {ad : Nat → Nat} {d : Nat} {m : Wm} {y1 y3 : Int64} (w : WT m) : Ct ad μX11_tellFraction (d + 1) [.ref (ad 0), .long y1, .long y3] m (fun r m' => WT m' ∧ Fx (RS [9]) m m' ∧ r = none ∧ ((m'.1 0 18).toInt = 2)) := by
  have f : Fx (RS [9]) m m := Fx.rf
  refine v_X11_tellFraction  ?_
  exact (nl_X11_tellFraction (m0 := m) 1000000).1 _ _ _ _ _ _ w f (by show (0 : Int) ≤ (0 : Int); omega) (by show (0 : Int) ≤ (200 : Int); omega) (by show 200 - (0 : Int) + 1 < _; omega)
set_option maxHeartbeats 4000000 in
theorem n_X11_tellWayTo {ad : Nat → Nat} {d : Nat} {m : Wm} {x1 : Int32} (w : WT m) (i1 : (-1 : Int) ≤ x1.toInt) (i2 : x1.toInt ≤ (2999 : Int)) : Ct ad μX11_tellWayTo (d + 1) [.ref (ad 0), .int x1] m (fun r m' => WT m' ∧ Fx (RS [9]) m m' ∧ ∃ v : Int32, r = some (.int v) ∧ ((v.toInt < 0 ∧ (m'.1 0 18).toInt = (m.1 0 18).toInt) ∨ (0 ≤ v.toInt ∧ ((v.toInt ≤ 10 ∧ (m'.1 0 18).toInt = v.toInt) ∨ (10 < v.toInt ∧ (m'.1 0 18).toInt = 10))))) := by
  have f : Fx (RS [9]) m m := Fx.rf
  refine v_X11_tellWayTo  ?_
  refine ⟨?_, ?_⟩
  · intro c1
    have k2 := y_lel (n := 0) rfl c1
    refine (s_X6_fillWay w (by show (0 : Int) ≤ (x1).toInt; omega) (by show (x1).toInt ≤ (2999 : Int); omega)).to ?_
    rintro _ m1 ⟨w_m1, g3, rfl⟩
    have f_m1 : Fx (RS [9]) m m1 := f.tr g3 (RS_sub rfl)
    have e4 : (m1.1 3 3).toInt = ((m.1 3 3)).toInt := congrArg _ (g3.at (a := 3) (k := 3) (by decide))
    refine ⟨rfl, ?_⟩
    refine ⟨?_, ?_⟩
    · exact vpi (by omega) (by omega)
    · refine ⟨?_, ?_⟩
      · exact vpi (by omega) (by omega)
      · have r6 := w_m1.at (a := 165) (k := x1.toNatClampNeg) rfl
        have t7 := tn (x := x1) (by omega)
        have t8 := ti_ltv (a := (10 : Int32)) (b := (m1.1 165 x1.toNatClampNeg)) (c := (10 : Int32)) (d := (m1.1 165 x1.toNatClampNeg)) (A := (10)) (B := (m1.1 165 x1.toNatClampNeg).toInt) (C := (10)) (D := (m1.1 165 x1.toNatClampNeg).toInt) rfl rfl rfl rfl
        have w5 : WT (uI m1 0 18 (if (10 : Int32) < (m1.1 165 x1.toNatClampNeg) then (10 : Int32) else (m1.1 165 x1.toNatClampNeg))) := w_m1.t rfl (by show (0 : Int) ≤ ((if (10 : Int32) < (m1.1 165 x1.toNatClampNeg) then (10 : Int32) else (m1.1 165 x1.toNatClampNeg))).toInt; omega) (by show ((if (10 : Int32) < (m1.1 165 x1.toNatClampNeg) then (10 : Int32) else (m1.1 165 x1.toNatClampNeg))).toInt ≤ 10; omega)
        have f5 : Fx (RS [9]) m (uI m1 0 18 (if (10 : Int32) < (m1.1 165 x1.toNatClampNeg) then (10 : Int32) else (m1.1 165 x1.toNatClampNeg))) := f_m1.i rfl
        exact ⟨w5, f5, _, rfl, (by show (((m1.1 165 x1.toNatClampNeg)).toInt < 0 ∧ ((if (10 : Int32) < (m1.1 165 x1.toNatClampNeg) then (10 : Int32) else (m1.1 165 x1.toNatClampNeg))).toInt = (m.1 0 18).toInt) ∨ (0 ≤ ((m1.1 165 x1.toNatClampNeg)).toInt ∧ ((((m1.1 165 x1.toNatClampNeg)).toInt ≤ 10 ∧ ((if (10 : Int32) < (m1.1 165 x1.toNatClampNeg) then (10 : Int32) else (m1.1 165 x1.toNatClampNeg))).toInt = ((m1.1 165 x1.toNatClampNeg)).toInt) ∨ (10 < ((m1.1 165 x1.toNatClampNeg)).toInt ∧ ((if (10 : Int32) < (m1.1 165 x1.toNatClampNeg) then (10 : Int32) else (m1.1 165 x1.toNatClampNeg))).toInt = 10))); omega)⟩
  · intro c9
    have k10 := y_nlel (n := 0) rfl c9
    have r11 := w.at (a := 0) (k := 18) rfl
    exact ⟨w, f, _, rfl, (by show ((-2 : Int) < 0 ∧ ((m.1 0 18)).toInt = (m.1 0 18).toInt) ∨ (0 ≤ (-2 : Int) ∧ (((-2 : Int) ≤ 10 ∧ ((m.1 0 18)).toInt = (-2 : Int)) ∨ (10 < (-2 : Int) ∧ ((m.1 0 18)).toInt = 10))); omega)⟩
set_option maxHeartbeats 4000000 in
theorem n_X11_game {ad : Nat → Nat} {d : Nat} {m : Wm} {x1 x2 x3 : Int32} (w : WT m) : Ct ad μX11_game (d + 5) [.ref (ad 0), .int x1, .int x2, .int x3] m (fun r m' => WT m' ∧ Fx (RS [2, 5, 9, 14]) m m' ∧ ∃ v : Int32, r = some (.int v) ∧ ((v.toInt = -1 ∧ (m'.1 0 18).toInt = (m.1 0 18).toInt) ∨ (0 ≤ v.toInt ∧ (m'.1 0 18).toInt = 2))) := by
  have f : Fx (RS [2, 5, 9, 14]) m m := Fx.rf
  refine v_X11_game  ?_
  refine (s_X1_canMeet w).to ?_
  rintro _ m1 ⟨w_m1, g1, v2, rfl, p3, p4, p2⟩
  have f_m1 : Fx (RS [2, 5, 9, 14]) m m1 := f.tr g1 (RS_sub rfl)
  have p5 : (v2.toInt = 0 ∧ ((x1).toInt < 0 ∨ ((m.1 3 3)).toInt ≤ (x1).toInt ∨ (x2).toInt < 0 ∨ ((m.1 3 3)).toInt ≤ (x2).toInt ∨ (x1).toInt = (x2).toInt)) ∨ (v2.toInt = 1 ∧ 0 ≤ (x1).toInt ∧ (x1).toInt < ((m.1 3 3)).toInt ∧ (x1).toInt ≤ 7 ∧ 0 ≤ (x2).toInt ∧ (x2).toInt < ((m.1 3 3)).toInt ∧ (x2).toInt ≤ 7 ∧ (x1).toInt ≠ (x2).toInt) := p2
  clear p2
  have e6 : (m1.1 0 18).toInt = ((m.1 0 18)).toInt := congrArg _ (g1.at (a := 0) (k := 18) (by decide))
  have e7 : (m1.1 3 3).toInt = ((m.1 3 3)).toInt := congrArg _ (g1.at (a := 3) (k := 3) (by decide))
  refine ⟨v2, rfl, ?_⟩
  refine ⟨?_, ?_⟩
  · intro c8
    have k9 := y_eqr (n := 0) rfl c8
    have r10 := w_m1.at (a := 0) (k := 18) rfl
    exact ⟨w_m1, f_m1, _, rfl, (by show ((-1 : Int) = -1 ∧ ((m1.1 0 18)).toInt = (m.1 0 18).toInt) ∨ (0 ≤ (-1 : Int) ∧ ((m1.1 0 18)).toInt = 2); omega)⟩
  · intro c11
    have k12 := y_ner (n := 0) rfl c11
    refine ⟨?_, ?_⟩
    · intro c13
      have k14 := y_ltr (n := 0) rfl c13
      have r15 := w_m1.at (a := 0) (k := 18) rfl
      exact ⟨w_m1, f_m1, _, rfl, (by show ((-1 : Int) = -1 ∧ ((m1.1 0 18)).toInt = (m.1 0 18).toInt) ∨ (0 ≤ (-1 : Int) ∧ ((m1.1 0 18)).toInt = 2); omega)⟩
    · intro c16
      have k17 := y_nltr (n := 0) rfl c16
      refine ⟨?_, ?_⟩
      · intro c18
        have k19 := y_ler (n := 3) rfl c18
        refine (s_X8_copy w_m1 SS_26 SS_21).to ?_
        rintro _ m3 ⟨w_m3, g20, rfl⟩
        have f_m3 : Fx (RS [2, 5, 9, 14]) m m3 := f_m1.tr g20 (RS_sub rfl)
        have e21 : (m3.1 0 18).toInt = ((m1.1 0 18)).toInt := congrArg _ (g20.at (a := 0) (k := 18) (by decide))
        have e22 : (m3.1 3 3).toInt = ((m1.1 3 3)).toInt := congrArg _ (g20.at (a := 3) (k := 3) (by decide))
        refine ⟨rfl, ?_⟩
        refine (s_X1_result w_m3 SS_26 (by show (0 : Int) ≤ (x1).toInt; omega) (by show (x1).toInt ≤ (7 : Int); omega) (by show (0 : Int) ≤ (x2).toInt; omega) (by show (x2).toInt ≤ (7 : Int); omega)).to ?_
        rintro _ m4 ⟨w_m4, g23, v5, rfl, p24, p25⟩
        have f_m4 : Fx (RS [2, 5, 9, 14]) m m4 := f_m3.tr g23 (RS_sub rfl)
        have e26 : (m4.1 0 18).toInt = ((m3.1 0 18)).toInt := congrArg _ (g23.at (a := 0) (k := 18) (by decide))
        have e27 : (m4.1 3 3).toInt = ((m3.1 3 3)).toInt := congrArg _ (g23.at (a := 3) (k := 3) (by decide))
        refine ⟨v5, rfl, ?_⟩
        refine (s_X1_settle w_m4 SS_26 (by show (0 : Int) ≤ (x1).toInt; omega) (by show (x1).toInt ≤ (7 : Int); omega) (by show (0 : Int) ≤ (x2).toInt; omega) (by show (x2).toInt ≤ (7 : Int); omega)).to ?_
        rintro _ m6 ⟨w_m6, g28, rfl⟩
        have f_m6 : Fx (RS [2, 5, 9, 14]) m m6 := f_m4.tr g28 (RS_sub rfl)
        have e29 : (m6.1 0 18).toInt = ((m4.1 0 18)).toInt := congrArg _ (g28.at (a := 0) (k := 18) (by decide))
        have e30 : (m6.1 3 3).toInt = ((m4.1 3 3)).toInt := congrArg _ (g28.at (a := 3) (k := 3) (by decide))
        refine ⟨rfl, ?_⟩
        refine (n_X11_tell_ w_m6).to ?_
        rintro _ m7 ⟨w_m7, g31, rfl, p32⟩
        have f_m7 : Fx (RS [2, 5, 9, 14]) m m7 := f_m6.tr g31 (RS_sub rfl)
        have p33 : (m7.1 0 18).toInt = 2 := p32
        clear p32
        have e34 : (m7.1 3 3).toInt = ((m6.1 3 3)).toInt := congrArg _ (g31.at (a := 3) (k := 3) (by decide))
        refine ⟨rfl, ?_⟩
        have r35 := w_m7.at (a := 0) (k := 18) rfl
        exact ⟨w_m7, f_m7, _, rfl, (by show ((v5).toInt = -1 ∧ ((m7.1 0 18)).toInt = (m.1 0 18).toInt) ∨ (0 ≤ (v5).toInt ∧ ((m7.1 0 18)).toInt = 2); omega)⟩
      · intro c36
        have k37 := y_nler (n := 3) rfl c36
        have r38 := w_m1.at (a := 0) (k := 18) rfl
        exact ⟨w_m1, f_m1, _, rfl, (by show ((-1 : Int) = -1 ∧ ((m1.1 0 18)).toInt = (m.1 0 18).toInt) ∨ (0 ≤ (-1 : Int) ∧ ((m1.1 0 18)).toInt = 2); omega)⟩
set_option maxHeartbeats 4000000 in
theorem n_X11_play {ad : Nat → Nat} {d : Nat} {m : Wm} {x1 x2 x3 : Int32} (w : WT m) : Ct ad μX11_play (d + 7) [.ref (ad 0), .int x1, .int x2, .int x3] m (fun r m' => WT m' ∧ Fx (RS [2, 4, 6, 9, 14, 53]) m m' ∧ ∃ v : Int32, r = some (.int v) ∧ ((v.toInt = -1 ∧ (m'.1 0 18).toInt = (m.1 0 18).toInt) ∨ (0 ≤ v.toInt ∧ (m'.1 0 18).toInt = 2))) := by
  have f : Fx (RS [2, 4, 6, 9, 14, 53]) m m := Fx.rf
  refine v_X11_play  ?_
  refine (s_X1_canMeet w).to ?_
  rintro _ m1 ⟨w_m1, g1, v2, rfl, p3, p4, p2⟩
  have f_m1 : Fx (RS [2, 4, 6, 9, 14, 53]) m m1 := f.tr g1 (RS_sub rfl)
  have p5 : (v2.toInt = 0 ∧ ((x1).toInt < 0 ∨ ((m.1 3 3)).toInt ≤ (x1).toInt ∨ (x2).toInt < 0 ∨ ((m.1 3 3)).toInt ≤ (x2).toInt ∨ (x1).toInt = (x2).toInt)) ∨ (v2.toInt = 1 ∧ 0 ≤ (x1).toInt ∧ (x1).toInt < ((m.1 3 3)).toInt ∧ (x1).toInt ≤ 7 ∧ 0 ≤ (x2).toInt ∧ (x2).toInt < ((m.1 3 3)).toInt ∧ (x2).toInt ≤ 7 ∧ (x1).toInt ≠ (x2).toInt) := p2
  clear p2
  have e6 : (m1.1 0 18).toInt = ((m.1 0 18)).toInt := congrArg _ (g1.at (a := 0) (k := 18) (by decide))
  have e7 : (m1.1 3 3).toInt = ((m.1 3 3)).toInt := congrArg _ (g1.at (a := 3) (k := 3) (by decide))
  refine ⟨v2, rfl, ?_⟩
  refine ⟨?_, ?_⟩
  · intro c8
    have k9 := y_eqr (n := 0) rfl c8
    have r10 := w_m1.at (a := 0) (k := 18) rfl
    exact ⟨w_m1, f_m1, _, rfl, (by show ((-1 : Int) = -1 ∧ ((m1.1 0 18)).toInt = (m.1 0 18).toInt) ∨ (0 ≤ (-1 : Int) ∧ ((m1.1 0 18)).toInt = 2); omega)⟩
  · intro c11
    have k12 := y_ner (n := 0) rfl c11
    refine ⟨?_, ?_⟩
    · intro c13
      have k14 := y_ltr (n := 0) rfl c13
      have r15 := w_m1.at (a := 0) (k := 18) rfl
      exact ⟨w_m1, f_m1, _, rfl, (by show ((-1 : Int) = -1 ∧ ((m1.1 0 18)).toInt = (m.1 0 18).toInt) ∨ (0 ≤ (-1 : Int) ∧ ((m1.1 0 18)).toInt = 2); omega)⟩
    · intro c16
      have k17 := y_nltr (n := 0) rfl c16
      refine ⟨?_, ?_⟩
      · intro c18
        have k19 := y_ler (n := 3) rfl c18
        refine (s_X11_playNow w_m1 (by show (0 : Int) ≤ (x1).toInt; omega) (by show (x1).toInt ≤ (7 : Int); omega) (by show (0 : Int) ≤ (x2).toInt; omega) (by show (x2).toInt ≤ (7 : Int); omega)).to ?_
        rintro _ m3 ⟨w_m3, g20, v4, rfl, p21, p22⟩
        have f_m3 : Fx (RS [2, 4, 6, 9, 14, 53]) m m3 := f_m1.tr g20 (RS_sub rfl)
        have e23 : (m3.1 0 18).toInt = ((m1.1 0 18)).toInt := congrArg _ (g20.at (a := 0) (k := 18) (by decide))
        have e24 : (m3.1 3 3).toInt = ((m1.1 3 3)).toInt := congrArg _ (g20.at (a := 3) (k := 3) (by decide))
        refine ⟨v4, rfl, ?_⟩
        refine ⟨?_, ?_⟩
        · exact vpi (by omega) (by omega)
        · refine ⟨?_, ?_⟩
          · exact vpi (by omega) (by omega)
          · refine (n_X11_tell_ w_m3).to ?_
            rintro _ m5 ⟨w_m5, g25, rfl, p26⟩
            have f_m5 : Fx (RS [2, 4, 6, 9, 14, 53]) m m5 := f_m3.tr g25 (RS_sub rfl)
            have p27 : (m5.1 0 18).toInt = 2 := p26
            clear p26
            have e28 : (m5.1 3 3).toInt = ((m3.1 3 3)).toInt := congrArg _ (g25.at (a := 3) (k := 3) (by decide))
            refine ⟨rfl, ?_⟩
            have r29 := w_m5.at (a := 0) (k := 18) rfl
            exact ⟨w_m5, f_m5, _, rfl, (by show ((v4).toInt = -1 ∧ ((m5.1 0 18)).toInt = (m.1 0 18).toInt) ∨ (0 ≤ (v4).toInt ∧ ((m5.1 0 18)).toInt = 2); omega)⟩
      · intro c30
        have k31 := y_nler (n := 3) rfl c30
        have r32 := w_m1.at (a := 0) (k := 18) rfl
        exact ⟨w_m1, f_m1, _, rfl, (by show ((-1 : Int) = -1 ∧ ((m1.1 0 18)).toInt = (m.1 0 18).toInt) ∨ (0 ≤ (-1 : Int) ∧ ((m1.1 0 18)).toInt = 2); omega)⟩
set_option maxHeartbeats 4000000 in
theorem nl_X11_judge {ad : Nat → Nat} {d : Nat} {m0 : Wm}  : ∀ n : Nat, (∀ (m : Wm) (x1 x2 x3 x4 : Int32), WT m → Fx (RS [2, 5, 9, 14]) m0 m → (0 : Int) ≤ x1.toInt → x1.toInt ≤ (3 : Int) → (0 : Int) ≤ x4.toInt → x4.toInt ≤ (3 : Int) → (x3.toInt ≠ -1) → 4 - x4.toInt < (n : Int) → AW ad E0 μX11_judge (d + 6) (fun r m' => WT m' ∧ Fx (RS [2, 5, 9, 14]) m0 m' ∧ ∃ v : Int32, r = some (.int v) ∧ ((v.toInt = -1 ∧ (m'.1 0 18).toInt = (m0.1 0 18).toInt) ∨ (v.toInt ≠ -1 ∧ (m'.1 0 18).toInt = 1))) 28 [(0, .ref (ad 0)), (1, .int x1), (2, .int x2), (3, .int x3), (4, .int x4)] [] m) ∧ (∀ (m : Wm) (x3 : Int32), WT m → Fx (RS [2, 5, 9, 14]) m0 m → (x3.toInt ≠ -1) → 0 * x3.toInt < (n : Int) → AW ad E0 μX11_judge (d + 6) (fun r m' => WT m' ∧ Fx (RS [2, 5, 9, 14]) m0 m' ∧ ∃ v : Int32, r = some (.int v) ∧ ((v.toInt = -1 ∧ (m'.1 0 18).toInt = (m0.1 0 18).toInt) ∨ (v.toInt ≠ -1 ∧ (m'.1 0 18).toInt = 1))) 67 [(0, .ref (ad 0)), (3, .int x3)] [] m) := by
  intro n
  induction n with
  | zero =>
    refine ⟨?_, ?_⟩ <;> intros <;> exfalso <;> omega
  | succ n ih =>
    refine ⟨?_, ?_⟩
    · intro m x1 x2 x3 x4 w f j1 j2 j3 j4 j5 hn
      refine g_X11_judge_28  ?_
      refine ⟨?_, ?_⟩
      · intro c1
        have k2 := z_le c1
        exact ih.2 _ _ w f (by show (x3).toInt ≠ -1; omega) (by show 0 * (x3).toInt < _; omega)
      · intro c3
        have k4 := z_nle c3
        refine ⟨?_, ?_⟩
        · intro c5
          have k6 := y_ner (n := -2) rfl c5
          exact ih.2 _ _ w f (by show (x3).toInt ≠ -1; omega) (by show 0 * (x3).toInt < _; omega)
        · intro c7
          have k8 := y_eqr (n := -2) rfl c7
          refine (s_X11_playTold w).to ?_
          rintro _ m1 ⟨w_m1, g9, v2, rfl, p10, p11⟩
          have f_m1 : Fx (RS [2, 5, 9, 14]) m0 m1 := f.tr g9 (RS_sub rfl)
          have e12 : (m1.1 0 18).toInt = ((m.1 0 18)).toInt := congrArg _ (g9.at (a := 0) (k := 18) (by decide))
          have e13 : (m1.1 3 3).toInt = ((m.1 3 3)).toInt := congrArg _ (g9.at (a := 3) (k := 3) (by decide))
          refine ⟨v2, rfl, ?_⟩
          refine ⟨?_, ?_⟩
          · intro c14
            have k15 := y_ner (n := 0) rfl c14
            have t16 := ti_addc (x := x4) (y := (1 : Int32)) (c := 1) rfl (by omega)
            exact ih.1 _ _ _ _ _ w_m1 f_m1 (by show (0 : Int) ≤ (x1).toInt; omega) (by show (x1).toInt ≤ (3 : Int); omega) (by show (0 : Int) ≤ ((x4 + (1 : Int32))).toInt; omega) (by show ((x4 + (1 : Int32))).toInt ≤ (3 : Int); omega) (by show (x3).toInt ≠ -1; omega) (by show 4 - ((x4 + (1 : Int32))).toInt < _; omega)
          · intro c17
            have k18 := y_eqr (n := 0) rfl c17
            have t19 := ti_addc (x := x4) (y := (1 : Int32)) (c := 1) rfl (by omega)
            exact ih.1 _ _ _ _ _ w_m1 f_m1 (by show (0 : Int) ≤ (x1).toInt; omega) (by show (x1).toInt ≤ (3 : Int); omega) (by show (0 : Int) ≤ ((x4 + (1 : Int32))).toInt; omega) (by show ((x4 + (1 : Int32))).toInt ≤ (3 : Int); omega) (by show (x4).toInt ≠ -1; omega) (by show 4 - ((x4 + (1 : Int32))).toInt < _; omega)
    · intro m x3 w f j1 hn
      refine g_X11_judge_67  ?_
      refine (s_X1_total w SS_26).to ?_
      rintro _ m1 ⟨w_m1, g1, v2, rfl⟩
      have f_m1 : Fx (RS [2, 5, 9, 14]) m0 m1 := f.tr g1 (RS_sub rfl)
      have e2 : (m1.1 0 18).toInt = ((m.1 0 18)).toInt := congrArg _ (g1.at (a := 0) (k := 18) (by decide))
      have e3 : (m1.1 3 3).toInt = ((m.1 3 3)).toInt := congrArg _ (g1.at (a := 3) (k := 3) (by decide))
      refine ⟨v2, rfl, ?_⟩
      refine (s_X1_total w_m1 SS_21).to ?_
      rintro _ m3 ⟨w_m3, g4, v4, rfl⟩
      have f_m3 : Fx (RS [2, 5, 9, 14]) m0 m3 := f_m1.tr g4 (RS_sub rfl)
      have e5 : (m3.1 0 18).toInt = ((m1.1 0 18)).toInt := congrArg _ (g4.at (a := 0) (k := 18) (by decide))
      have e6 : (m3.1 3 3).toInt = ((m1.1 3 3)).toInt := congrArg _ (g4.at (a := 3) (k := 3) (by decide))
      refine ⟨v4, rfl, ?_⟩
      refine (n_X11_tell w_m3).to ?_
      rintro _ m5 ⟨w_m5, g7, rfl, p8⟩
      have f_m5 : Fx (RS [2, 5, 9, 14]) m0 m5 := f_m3.tr g7 (RS_sub rfl)
      have p9 : (m5.1 0 18).toInt = 1 := p8
      clear p8
      have e10 : (m5.1 3 3).toInt = ((m3.1 3 3)).toInt := congrArg _ (g7.at (a := 3) (k := 3) (by decide))
      refine ⟨rfl, ?_⟩
      have r11 := w_m5.at (a := 0) (k := 18) rfl
      exact ⟨w_m5, f_m5, _, rfl, (by show ((x3).toInt = -1 ∧ ((m5.1 0 18)).toInt = (m0.1 0 18).toInt) ∨ ((x3).toInt ≠ -1 ∧ ((m5.1 0 18)).toInt = 1); omega)⟩
set_option maxHeartbeats 4000000 in
theorem n_X11_judge {ad : Nat → Nat} {d : Nat} {m : Wm} {x1 x2 : Int32} (w : WT m) : Ct ad μX11_judge (d + 6) [.ref (ad 0), .int x1, .int x2] m (fun r m' => WT m' ∧ Fx (RS [2, 5, 9, 14]) m m' ∧ ∃ v : Int32, r = some (.int v) ∧ ((v.toInt = -1 ∧ (m'.1 0 18).toInt = (m.1 0 18).toInt) ∨ (v.toInt ≠ -1 ∧ (m'.1 0 18).toInt = 1))) := by
  have f : Fx (RS [2, 5, 9, 14]) m m := Fx.rf
  refine v_X11_judge  ?_
  refine ⟨?_, ?_⟩
  · intro c1
    have k2 := y_ltr (n := 0) rfl c1
    have r3 := w.at (a := 0) (k := 18) rfl
    exact ⟨w, f, _, rfl, (by show ((-1 : Int) = -1 ∧ ((m.1 0 18)).toInt = (m.1 0 18).toInt) ∨ ((-1 : Int) ≠ -1 ∧ ((m.1 0 18)).toInt = 1); omega)⟩
  · intro c4
    have k5 := y_nltr (n := 0) rfl c4
    refine ⟨?_, ?_⟩
    · intro c6
      have k7 := y_ler (n := 3) rfl c6
      refine (s_X8_copy w SS_26 SS_21).to ?_
      rintro _ m1 ⟨w_m1, g8, rfl⟩
      have f_m1 : Fx (RS [2, 5, 9, 14]) m m1 := f.tr g8 (RS_sub rfl)
      have e9 : (m1.1 0 18).toInt = ((m.1 0 18)).toInt := congrArg _ (g8.at (a := 0) (k := 18) (by decide))
      have e10 : (m1.1 3 3).toInt = ((m.1 3 3)).toInt := congrArg _ (g8.at (a := 3) (k := 3) (by decide))
      refine ⟨rfl, ?_⟩
      exact (nl_X11_judge (m0 := m) 1000000).1 _ _ _ _ _ w_m1 f_m1 (by show (0 : Int) ≤ (x1).toInt; omega) (by show (x1).toInt ≤ (3 : Int); omega) (by show (0 : Int) ≤ (0 : Int); omega) (by show (0 : Int) ≤ (3 : Int); omega) (by show (-2 : Int) ≠ -1; omega) (by show 4 - (0 : Int) < _; omega)
    · intro c11
      have k12 := y_nler (n := 3) rfl c11
      have r13 := w.at (a := 0) (k := 18) rfl
      exact ⟨w, f, _, rfl, (by show ((-1 : Int) = -1 ∧ ((m.1 0 18)).toInt = (m.1 0 18).toInt) ∨ ((-1 : Int) ≠ -1 ∧ ((m.1 0 18)).toInt = 1); omega)⟩
set_option maxHeartbeats 4000000 in
theorem nl_X11_rounds {ad : Nat → Nat} {d : Nat} {m0 : Wm}  : ∀ n : Nat, (∀ (m : Wm) (x1 x2 x3 x4 : Int32), WT m → Fx (RS [2, 4, 6, 9, 14, 44, 53]) m0 m → (0 : Int) ≤ x1.toInt → x1.toInt ≤ (200 : Int) → (0 : Int) ≤ x4.toInt → x4.toInt ≤ (200 : Int) → (0 : Int) ≤ x2.toInt → x2.toInt ≤ (9600 : Int) → (x2.toInt ≤ 48 * x4.toInt) → (200 - x4.toInt) * 100 + 60 < (n : Int) → AW ad E0 μX11_rounds (d + 7) (fun r m' => WT m' ∧ Fx (RS [2, 4, 6, 9, 14, 44, 53]) m0 m' ∧ ∃ v : Int32, r = some (.int v) ∧ ((v.toInt = -1 ∧ (m'.1 0 18).toInt = (m0.1 0 18).toInt) ∨ (0 ≤ v.toInt ∧ (m'.1 0 18).toInt = 2))) 30 [(0, .ref (ad 0)), (1, .int x1), (2, .int x2), (3, .int x3), (4, .int x4)] [] m) ∧ (∀ (m : Wm) (x1 x2 x3 x4 x5 x6 : Int32), WT m → Fx (RS [2, 4, 6, 9, 14, 44, 53]) m0 m → (0 : Int) ≤ x1.toInt → x1.toInt ≤ (200 : Int) → (0 : Int) ≤ x4.toInt → x4.toInt ≤ (199 : Int) → (0 : Int) ≤ x5.toInt → x5.toInt ≤ (48 : Int) → (0 : Int) ≤ x6.toInt → x6.toInt ≤ (48 : Int) → (0 : Int) ≤ x2.toInt → x2.toInt ≤ (9600 : Int) → (x2.toInt ≤ 48 * x4.toInt + x6.toInt) → (200 - x4.toInt) * 100 + 48 - x6.toInt < (n : Int) → AW ad E0 μX11_rounds (d + 7) (fun r m' => WT m' ∧ Fx (RS [2, 4, 6, 9, 14, 44, 53]) m0 m' ∧ ∃ v : Int32, r = some (.int v) ∧ ((v.toInt = -1 ∧ (m'.1 0 18).toInt = (m0.1 0 18).toInt) ∨ (0 ≤ v.toInt ∧ (m'.1 0 18).toInt = 2))) 64 [(0, .ref (ad 0)), (1, .int x1), (2, .int x2), (3, .int x3), (4, .int x4), (5, .int x5), (6, .int x6)] [] m) := by
  intro n
  induction n with
  | zero =>
    refine ⟨?_, ?_⟩ <;> intros <;> exfalso <;> omega
  | succ n ih =>
    refine ⟨?_, ?_⟩
    · intro m x1 x2 x3 x4 w f j1 j2 j3 j4 j5 j6 j7 hn
      refine g_X11_rounds_30  ?_
      refine ⟨?_, ?_⟩
      · intro c1
        have k2 := z_le c1
        refine (s_X1_total w SS_21).to ?_
        rintro _ m1 ⟨w_m1, g3, v2, rfl⟩
        have f_m1 : Fx (RS [2, 4, 6, 9, 14, 44, 53]) m0 m1 := f.tr g3 (RS_sub rfl)
        have e4 : (m1.1 0 18).toInt = ((m.1 0 18)).toInt := congrArg _ (g3.at (a := 0) (k := 18) (by decide))
        have e5 : (m1.1 3 3).toInt = ((m.1 3 3)).toInt := congrArg _ (g3.at (a := 3) (k := 3) (by decide))
        refine ⟨v2, rfl, ?_⟩
        refine (n_X11_tell_ w_m1).to ?_
        rintro _ m3 ⟨w_m3, g6, rfl, p7⟩
        have f_m3 : Fx (RS [2, 4, 6, 9, 14, 44, 53]) m0 m3 := f_m1.tr g6 (RS_sub rfl)
        have p8 : (m3.1 0 18).toInt = 2 := p7
        clear p7
        have e9 : (m3.1 3 3).toInt = ((m1.1 3 3)).toInt := congrArg _ (g6.at (a := 3) (k := 3) (by decide))
        refine ⟨rfl, ?_⟩
        have r10 := w_m3.at (a := 0) (k := 18) rfl
        exact ⟨w_m3, f_m3, _, rfl, (by show ((x2).toInt = -1 ∧ ((m3.1 0 18)).toInt = (m0.1 0 18).toInt) ∨ (0 ≤ (x2).toInt ∧ ((m3.1 0 18)).toInt = 2); omega)⟩
      · intro c11
        have k12 := z_nle c11
        obtain ⟨r4, e13, q14⟩ := w.r09
        refine ⟨r4, e13, Pl_of q14, ?_⟩
        refine (s_X3_begin w q14).to ?_
        rintro _ m5 ⟨w_m5, g15, v6, rfl, p16, p17⟩
        have f_m5 : Fx (RS [2, 4, 6, 9, 14, 44, 53]) m0 m5 := f.tr g15 (RS_sub rfl)
        have e18 : (m5.1 0 18).toInt = ((m.1 0 18)).toInt := congrArg _ (g15.at (a := 0) (k := 18) (by decide))
        have e19 : (m5.1 3 3).toInt = ((m.1 3 3)).toInt := congrArg _ (g15.at (a := 3) (k := 3) (by decide))
        refine ⟨v6, rfl, ?_⟩
        obtain ⟨r7, e20, q21⟩ := w_m5.r09
        refine ⟨r7, e20, Pl_of q21, ?_⟩
        refine (s_X3_begin w_m5 q21).to ?_
        rintro _ m8 ⟨w_m8, g22, v9, rfl, p23, p24⟩
        have f_m8 : Fx (RS [2, 4, 6, 9, 14, 44, 53]) m0 m8 := f_m5.tr g22 (RS_sub rfl)
        have e25 : (m8.1 0 18).toInt = ((m5.1 0 18)).toInt := congrArg _ (g22.at (a := 0) (k := 18) (by decide))
        have e26 : (m8.1 3 3).toInt = ((m5.1 3 3)).toInt := congrArg _ (g22.at (a := 3) (k := 3) (by decide))
        refine ⟨v9, rfl, ?_⟩
        exact ih.2 _ _ _ _ _ _ _ w_m8 f_m8 (by show (0 : Int) ≤ (x1).toInt; omega) (by show (x1).toInt ≤ (200 : Int); omega) (by show (0 : Int) ≤ (x4).toInt; omega) (by show (x4).toInt ≤ (199 : Int); omega) (by show (0 : Int) ≤ (v6).toInt; omega) (by show (v6).toInt ≤ (48 : Int); omega) (by show (0 : Int) ≤ (v9).toInt; omega) (by show (v9).toInt ≤ (48 : Int); omega) (by show (0 : Int) ≤ (x2).toInt; omega) (by show (x2).toInt ≤ (9600 : Int); omega) (by show (x2).toInt ≤ 48 * (x4).toInt + (v9).toInt; omega) (by show (200 - (x4).toInt) * 100 + 48 - (v9).toInt < _; omega)
    · intro m x1 x2 x3 x4 x5 x6 w f j1 j2 j3 j4 j5 j6 j7 j8 j9 j10 j11 hn
      refine g_X11_rounds_64  ?_
      refine ⟨?_, ?_⟩
      · intro c1
        have k2 := z_le c1
        obtain ⟨r1, e3, q4⟩ := w.r09
        refine ⟨r1, e3, Pl_of q4, ?_⟩
        refine (s_X3_after w q4).to ?_
        rintro _ m2 ⟨w_m2, g5, v3, rfl⟩
        have f_m2 : Fx (RS [2, 4, 6, 9, 14, 44, 53]) m0 m2 := f.tr g5 (RS_sub rfl)
        have e6 : (m2.1 0 18).toInt = ((m.1 0 18)).toInt := congrArg _ (g5.at (a := 0) (k := 18) (by decide))
        have e7 : (m2.1 3 3).toInt = ((m.1 3 3)).toInt := congrArg _ (g5.at (a := 3) (k := 3) (by decide))
        refine ⟨v3, rfl, ?_⟩
        have w8 : WT (uI m2 0 11 v3) := w_m2.n rfl
        have f8 : Fx (RS [2, 4, 6, 9, 14, 44, 53]) m0 (uI m2 0 11 v3) := f_m2.i rfl
        have t9 := ti_addc (x := x4) (y := (1 : Int32)) (c := 1) rfl (by omega)
        exact ih.1 _ _ _ _ _ w8 f8 (by show (0 : Int) ≤ (x1).toInt; omega) (by show (x1).toInt ≤ (200 : Int); omega) (by show (0 : Int) ≤ ((x4 + (1 : Int32))).toInt; omega) (by show ((x4 + (1 : Int32))).toInt ≤ (200 : Int); omega) (by show (0 : Int) ≤ (x2).toInt; omega) (by show (x2).toInt ≤ (9600 : Int); omega) (by show (x2).toInt ≤ 48 * ((x4 + (1 : Int32))).toInt; omega) (by show (200 - ((x4 + (1 : Int32))).toInt) * 100 + 60 < _; omega)
      · intro c10
        have k11 := z_nle c10
        obtain ⟨r4, e12, q13⟩ := w.r09
        refine ⟨r4, e12, Pl_of q13, ?_⟩
        refine ⟨?_, ?_⟩
        · exact vpi (by omega) (by omega)
        · refine ⟨r4, e12, Pl_of q13, ?_⟩
          refine ⟨?_, ?_⟩
          · exact vpi (by omega) (by omega)
          · refine ⟨r4, e12, Pl_of q13, ?_⟩
            refine ⟨?_, ?_⟩
            · exact vpi (by omega) (by omega)
            · have r14 := w.plj (j := 1) (k := x6.toNatClampNeg) q13 rfl rfl
              have r15 := w.plj (j := 2) (k := x6.toNatClampNeg) q13 rfl rfl
              refine (s_X11_playNow w (by show (0 : Int) ≤ ((m.1 (r4 + 1) x6.toNatClampNeg)).toInt; omega) (by show ((m.1 (r4 + 1) x6.toNatClampNeg)).toInt ≤ (7 : Int); omega) (by show (0 : Int) ≤ ((m.1 (r4 + 2) x6.toNatClampNeg)).toInt; omega) (by show ((m.1 (r4 + 2) x6.toNatClampNeg)).toInt ≤ (7 : Int); omega)).to ?_
              rintro _ m7 ⟨w_m7, g16, v8, rfl, p17, p18⟩
              have f_m7 : Fx (RS [2, 4, 6, 9, 14, 44, 53]) m0 m7 := f.tr g16 (RS_sub rfl)
              have e19 : (m7.1 0 18).toInt = ((m.1 0 18)).toInt := congrArg _ (g16.at (a := 0) (k := 18) (by decide))
              have e20 : (m7.1 3 3).toInt = ((m.1 3 3)).toInt := congrArg _ (g16.at (a := 3) (k := 3) (by decide))
              refine ⟨v8, rfl, ?_⟩
              refine ⟨?_, ?_⟩
              · intro c21
                have k22 := y_ner (n := 2) rfl c21
                have t23 := ti_addc (x := x6) (y := (1 : Int32)) (c := 1) rfl (by omega)
                have t24 := ti_addc (x := x2) (y := (1 : Int32)) (c := 1) rfl (by omega)
                exact ih.2 _ _ _ _ _ _ _ w_m7 f_m7 (by show (0 : Int) ≤ (x1).toInt; omega) (by show (x1).toInt ≤ (200 : Int); omega) (by show (0 : Int) ≤ (x4).toInt; omega) (by show (x4).toInt ≤ (199 : Int); omega) (by show (0 : Int) ≤ (x5).toInt; omega) (by show (x5).toInt ≤ (48 : Int); omega) (by show (0 : Int) ≤ ((x6 + (1 : Int32))).toInt; omega) (by show ((x6 + (1 : Int32))).toInt ≤ (48 : Int); omega) (by show (0 : Int) ≤ ((x2 + (1 : Int32))).toInt; omega) (by show ((x2 + (1 : Int32))).toInt ≤ (9600 : Int); omega) (by show ((x2 + (1 : Int32))).toInt ≤ 48 * (x4).toInt + ((x6 + (1 : Int32))).toInt; omega) (by show (200 - (x4).toInt) * 100 + 48 - ((x6 + (1 : Int32))).toInt < _; omega)
              · intro c25
                have k26 := y_eqr (n := 2) rfl c25
                have t27 := ti_addc (x := x6) (y := (1 : Int32)) (c := 1) rfl (by omega)
                have t28 := ti_addc (x := x2) (y := (1 : Int32)) (c := 1) rfl (by omega)
                exact ih.2 _ _ _ _ _ _ _ w_m7 f_m7 (by show (0 : Int) ≤ (x1).toInt; omega) (by show (x1).toInt ≤ (200 : Int); omega) (by show (0 : Int) ≤ (x4).toInt; omega) (by show (x4).toInt ≤ (199 : Int); omega) (by show (0 : Int) ≤ (x5).toInt; omega) (by show (x5).toInt ≤ (48 : Int); omega) (by show (0 : Int) ≤ ((x6 + (1 : Int32))).toInt; omega) (by show ((x6 + (1 : Int32))).toInt ≤ (48 : Int); omega) (by show (0 : Int) ≤ ((x2 + (1 : Int32))).toInt; omega) (by show ((x2 + (1 : Int32))).toInt ≤ (9600 : Int); omega) (by show ((x2 + (1 : Int32))).toInt ≤ 48 * (x4).toInt + ((x6 + (1 : Int32))).toInt; omega) (by show (200 - (x4).toInt) * 100 + 48 - ((x6 + (1 : Int32))).toInt < _; omega)
set_option maxHeartbeats 4000000 in
theorem n_X11_rounds {ad : Nat → Nat} {d : Nat} {m : Wm} {x1 : Int32} (w : WT m) : Ct ad μX11_rounds (d + 7) [.ref (ad 0), .int x1] m (fun r m' => WT m' ∧ Fx (RS [2, 4, 6, 9, 14, 44, 53]) m m' ∧ ∃ v : Int32, r = some (.int v) ∧ ((v.toInt = -1 ∧ (m'.1 0 18).toInt = (m.1 0 18).toInt) ∨ (0 ≤ v.toInt ∧ (m'.1 0 18).toInt = 2))) := by
  have f : Fx (RS [2, 4, 6, 9, 14, 44, 53]) m m := Fx.rf
  refine v_X11_rounds  ?_
  refine ⟨?_, ?_⟩
  · intro c1
    have k2 := y_ltr (n := 0) rfl c1
    have r3 := w.at (a := 0) (k := 18) rfl
    exact ⟨w, f, _, rfl, (by show ((-1 : Int) = -1 ∧ ((m.1 0 18)).toInt = (m.1 0 18).toInt) ∨ (0 ≤ (-1 : Int) ∧ ((m.1 0 18)).toInt = 2); omega)⟩
  · intro c4
    have k5 := y_nltr (n := 0) rfl c4
    refine ⟨?_, ?_⟩
    · intro c6
      have k7 := y_ltl (n := 200) rfl c6
      have r8 := w.at (a := 0) (k := 18) rfl
      exact ⟨w, f, _, rfl, (by show ((-1 : Int) = -1 ∧ ((m.1 0 18)).toInt = (m.1 0 18).toInt) ∨ (0 ≤ (-1 : Int) ∧ ((m.1 0 18)).toInt = 2); omega)⟩
    · intro c9
      have k10 := y_nltl (n := 200) rfl c9
      obtain ⟨r1, e11, q12⟩ := w.r09
      refine ⟨r1, e11, Pl_of q12, ?_⟩
      refine ⟨?_, ?_⟩
      · intro c13
        have r14 := w.pl (k := 5) q12 rfl rfl
        have k15 := y_ner (n := 0) rfl c13
        exact (nl_X11_rounds (m0 := m) 1000000).1 _ _ _ _ _ w f (by show (0 : Int) ≤ (x1).toInt; omega) (by show (x1).toInt ≤ (200 : Int); omega) (by show (0 : Int) ≤ (0 : Int); omega) (by show (0 : Int) ≤ (200 : Int); omega) (by show (0 : Int) ≤ (0 : Int); omega) (by show (0 : Int) ≤ (9600 : Int); omega) (by show (0 : Int) ≤ 48 * (0 : Int); omega) (by show (200 - (0 : Int)) * 100 + 60 < _; omega)
      · intro c16
        have r17 := w.pl (k := 5) q12 rfl rfl
        have k18 := y_eqr (n := 0) rfl c16
        have r19 := w.at (a := 0) (k := 18) rfl
        exact ⟨w, f, _, rfl, (by show ((-1 : Int) = -1 ∧ ((m.1 0 18)).toInt = (m.1 0 18).toInt) ∨ (0 ≤ (-1 : Int) ∧ ((m.1 0 18)).toInt = 2); omega)⟩
set_option maxHeartbeats 4000000 in
theorem n_X11_beats {ad : Nat → Nat} {d : Nat} {m : Wm} {x1 : Int32} (w : WT m) : Ct ad μX11_beats (d + 6) [.ref (ad 0), .int x1] m (fun r m' => WT m' ∧ Fx (RS [9, 14]) m m' ∧ ∃ v : Int32, r = some (.int v) ∧ (((x1.toInt < 0 ∨ (m.1 3 3).toInt ≤ x1.toInt) ∧ (m'.1 0 18).toInt = (m.1 0 18).toInt) ∨ (0 ≤ x1.toInt ∧ x1.toInt < (m.1 3 3).toInt ∧ (m'.1 0 18).toInt = 1))) := by
  have f : Fx (RS [9, 14]) m m := Fx.rf
  refine v_X11_beats  ?_
  refine (s_X1_has w).to ?_
  rintro _ m1 ⟨w_m1, g1, v2, rfl, p3, p4, p2⟩
  have f_m1 : Fx (RS [9, 14]) m m1 := f.tr g1 (RS_sub rfl)
  have p5 : (v2.toInt = 0 ∧ ((x1).toInt < 0 ∨ ((m.1 3 3)).toInt ≤ (x1).toInt)) ∨ (v2.toInt = 1 ∧ 0 ≤ (x1).toInt ∧ (x1).toInt < ((m.1 3 3)).toInt ∧ (x1).toInt ≤ 7) := p2
  clear p2
  have e6 : (m1.1 0 18).toInt = ((m.1 0 18)).toInt := congrArg _ (g1.at (a := 0) (k := 18) (by decide))
  have e7 : (m1.1 3 3).toInt = ((m.1 3 3)).toInt := congrArg _ (g1.at (a := 3) (k := 3) (by decide))
  refine ⟨v2, rfl, ?_⟩
  refine ⟨?_, ?_⟩
  · intro c8
    have k9 := y_ner (n := 0) rfl c8
    refine (s_X11_sidesWithResult w_m1 (by show (0 : Int) ≤ (x1).toInt; omega) (by show (x1).toInt ≤ (7 : Int); omega)).to ?_
    rintro _ m3 ⟨w_m3, g10, v4, rfl⟩
    have f_m3 : Fx (RS [9, 14]) m m3 := f_m1.tr g10 (RS_sub rfl)
    have e11 : (m3.1 0 18).toInt = ((m1.1 0 18)).toInt := congrArg _ (g10.at (a := 0) (k := 18) (by decide))
    have e12 : (m3.1 3 3).toInt = ((m1.1 3 3)).toInt := congrArg _ (g10.at (a := 3) (k := 3) (by decide))
    refine ⟨v4, rfl, ?_⟩
    refine (n_X11_tell w_m3).to ?_
    rintro _ m5 ⟨w_m5, g13, rfl, p14⟩
    have f_m5 : Fx (RS [9, 14]) m m5 := f_m3.tr g13 (RS_sub rfl)
    have p15 : (m5.1 0 18).toInt = 1 := p14
    clear p14
    have e16 : (m5.1 3 3).toInt = ((m3.1 3 3)).toInt := congrArg _ (g13.at (a := 3) (k := 3) (by decide))
    refine ⟨rfl, ?_⟩
    refine (s_X11_sidesWithResult w_m5 (by show (0 : Int) ≤ (x1).toInt; omega) (by show (x1).toInt ≤ (7 : Int); omega)).to ?_
    rintro _ m6 ⟨w_m6, g17, v7, rfl⟩
    have f_m6 : Fx (RS [9, 14]) m m6 := f_m5.tr g17 (RS_sub rfl)
    have e18 : (m6.1 0 18).toInt = ((m5.1 0 18)).toInt := congrArg _ (g17.at (a := 0) (k := 18) (by decide))
    have e19 : (m6.1 3 3).toInt = ((m5.1 3 3)).toInt := congrArg _ (g17.at (a := 3) (k := 3) (by decide))
    refine ⟨v7, rfl, ?_⟩
    have r20 := w_m6.at (a := 0) (k := 18) rfl
    exact ⟨w_m6, f_m6, _, rfl, (by show ((x1.toInt < 0 ∨ (m.1 3 3).toInt ≤ x1.toInt) ∧ ((m6.1 0 18)).toInt = (m.1 0 18).toInt) ∨ (0 ≤ x1.toInt ∧ x1.toInt < (m.1 3 3).toInt ∧ ((m6.1 0 18)).toInt = 1); omega)⟩
  · intro c21
    have k22 := y_eqr (n := 0) rfl c21
    have r23 := w_m1.at (a := 0) (k := 18) rfl
    exact ⟨w_m1, f_m1, _, rfl, (by show ((x1.toInt < 0 ∨ (m.1 3 3).toInt ≤ x1.toInt) ∧ ((m1.1 0 18)).toInt = (m.1 0 18).toInt) ∨ (0 ≤ x1.toInt ∧ x1.toInt < (m.1 3 3).toInt ∧ ((m1.1 0 18)).toInt = 1); omega)⟩
set_option maxHeartbeats 4000000 in
theorem nl_X11_kings {ad : Nat → Nat} {d : Nat} {m0 : Wm}  : ∀ n : Nat, (∀ (m : Wm) (x1 x2 : Int32), WT m → Fx (RS [9, 14]) m0 m → (0 : Int) ≤ x2.toInt → x2.toInt ≤ (8 : Int) → 1000 - x2.toInt < (n : Int) → AW ad E0 μX11_kings (d + 6) (fun r m' => WT m' ∧ Fx (RS [9, 14]) m0 m' ∧ ∃ v : Int32, r = some (.int v) ∧ ((m'.1 0 18).toInt = 1)) 4 [(0, .ref (ad 0)), (1, .int x1), (2, .int x2)] [] m) ∧ (∀ (m : Wm) (x1 x2 x3 : Int32), WT m → Fx (RS [9, 14]) m0 m → (0 : Int) ≤ x3.toInt → x3.toInt ≤ (8 : Int) → 8 - x3.toInt < (n : Int) → AW ad E0 μX11_kings (d + 6) (fun r m' => WT m' ∧ Fx (RS [9, 14]) m0 m' ∧ ∃ v : Int32, r = some (.int v) ∧ ((m'.1 0 18).toInt = 1)) 52 [(0, .ref (ad 0)), (1, .int x1), (2, .int x2), (3, .int x3)] [] m) := by
  intro n
  induction n with
  | zero =>
    refine ⟨?_, ?_⟩ <;> intros <;> exfalso <;> omega
  | succ n ih =>
    refine ⟨?_, ?_⟩
    · intro m x1 x2 w f j1 j2 hn
      refine g_X11_kings_4  ?_
      refine ⟨?_, ?_⟩
      · intro c1
        have r2 := w.at (a := 3) (k := 3) rfl
        have k3 := z_le c1
        exact ih.2 _ _ _ _ w f (by show (0 : Int) ≤ (0 : Int); omega) (by show (0 : Int) ≤ (8 : Int); omega) (by show 8 - (0 : Int) < _; omega)
      · intro c4
        have r5 := w.at (a := 3) (k := 3) rfl
        have k6 := z_nle c4
        refine (s_X11_sidesWithResult w (by show (0 : Int) ≤ (x2).toInt; omega) (by show (x2).toInt ≤ (7 : Int); omega)).to ?_
        rintro _ m1 ⟨w_m1, g7, v2, rfl⟩
        have f_m1 : Fx (RS [9, 14]) m0 m1 := f.tr g7 (RS_sub rfl)
        have e8 : (m1.1 0 18).toInt = ((m.1 0 18)).toInt := congrArg _ (g7.at (a := 0) (k := 18) (by decide))
        have e9 : (m1.1 3 3).toInt = ((m.1 3 3)).toInt := congrArg _ (g7.at (a := 3) (k := 3) (by decide))
        refine ⟨v2, rfl, ?_⟩
        refine ⟨?_, ?_⟩
        · exact vpi (by omega) (by omega)
        · refine ⟨?_, ?_⟩
          · exact vpi (by omega) (by omega)
          · refine ⟨?_, ?_⟩
            · intro c10
              have k11 := y_ner (n := 0) rfl c10
              have w12 : WT (uI m1 149 x2.toNatClampNeg v2) := w_m1.n rfl
              have f12 : Fx (RS [9, 14]) m0 (uI m1 149 x2.toNatClampNeg v2) := f_m1.i rfl
              have t13 := ti_addc (x := x2) (y := (1 : Int32)) (c := 1) rfl (by omega)
              exact ih.1 _ _ _ w12 f12 (by show (0 : Int) ≤ ((x2 + (1 : Int32))).toInt; omega) (by show ((x2 + (1 : Int32))).toInt ≤ (8 : Int); omega) (by show 1000 - ((x2 + (1 : Int32))).toInt < _; omega)
            · intro c14
              have k15 := y_eqr (n := 0) rfl c14
              have w16 : WT (uI m1 149 x2.toNatClampNeg v2) := w_m1.n rfl
              have f16 : Fx (RS [9, 14]) m0 (uI m1 149 x2.toNatClampNeg v2) := f_m1.i rfl
              have t17 := ti_addc (x := x2) (y := (1 : Int32)) (c := 1) rfl (by omega)
              exact ih.1 _ _ _ w16 f16 (by show (0 : Int) ≤ ((x2 + (1 : Int32))).toInt; omega) (by show ((x2 + (1 : Int32))).toInt ≤ (8 : Int); omega) (by show 1000 - ((x2 + (1 : Int32))).toInt < _; omega)
    · intro m x1 x2 x3 w f j1 j2 hn
      refine g_X11_kings_52  ?_
      refine ⟨?_, ?_⟩
      · intro c1
        have r2 := w.at (a := 3) (k := 3) rfl
        have k3 := z_le c1
        refine (n_X11_tell w).to ?_
        rintro _ m1 ⟨w_m1, g4, rfl, p5⟩
        have f_m1 : Fx (RS [9, 14]) m0 m1 := f.tr g4 (RS_sub rfl)
        have p6 : (m1.1 0 18).toInt = 1 := p5
        clear p5
        have e7 : (m1.1 3 3).toInt = ((m.1 3 3)).toInt := congrArg _ (g4.at (a := 3) (k := 3) (by decide))
        refine ⟨rfl, ?_⟩
        have r8 := w_m1.at (a := 0) (k := 18) rfl
        exact ⟨w_m1, f_m1, _, rfl, (by show ((m1.1 0 18)).toInt = 1; omega)⟩
      · intro c9
        have r10 := w.at (a := 3) (k := 3) rfl
        have k11 := z_nle c9
        refine (s_X11_isKing w (by show (0 : Int) ≤ (x3).toInt; omega) (by show (x3).toInt ≤ (7 : Int); omega)).to ?_
        rintro _ m2 ⟨w_m2, g12, v3, rfl, p13, p14⟩
        have f_m2 : Fx (RS [9, 14]) m0 m2 := f.tr g12 (RS_sub rfl)
        have e15 : (m2.1 0 18).toInt = ((m.1 0 18)).toInt := congrArg _ (g12.at (a := 0) (k := 18) (by decide))
        have e16 : (m2.1 3 3).toInt = ((m.1 3 3)).toInt := congrArg _ (g12.at (a := 3) (k := 3) (by decide))
        refine ⟨v3, rfl, ?_⟩
        refine ⟨?_, ?_⟩
        · intro c17
          have k18 := y_eqr (n := 0) rfl c17
          have t19 := ti_addc (x := x3) (y := (1 : Int32)) (c := 1) rfl (by omega)
          exact ih.2 _ _ _ _ w_m2 f_m2 (by show (0 : Int) ≤ ((x3 + (1 : Int32))).toInt; omega) (by show ((x3 + (1 : Int32))).toInt ≤ (8 : Int); omega) (by show 8 - ((x3 + (1 : Int32))).toInt < _; omega)
        · intro c20
          have k21 := y_ner (n := 0) rfl c20
          have t22 := ti_addc (x := x3) (y := (1 : Int32)) (c := 1) rfl (by omega)
          exact ih.2 _ _ _ _ w_m2 f_m2 (by show (0 : Int) ≤ ((x3 + (1 : Int32))).toInt; omega) (by show ((x3 + (1 : Int32))).toInt ≤ (8 : Int); omega) (by show 8 - ((x3 + (1 : Int32))).toInt < _; omega)
set_option maxHeartbeats 4000000 in
theorem n_X11_kings {ad : Nat → Nat} {d : Nat} {m : Wm} (w : WT m) : Ct ad μX11_kings (d + 6) [.ref (ad 0)] m (fun r m' => WT m' ∧ Fx (RS [9, 14]) m m' ∧ ∃ v : Int32, r = some (.int v) ∧ ((m'.1 0 18).toInt = 1)) := by
  have f : Fx (RS [9, 14]) m m := Fx.rf
  refine v_X11_kings  ?_
  exact (nl_X11_kings (m0 := m) 1000000).1 _ _ _ w f (by show (0 : Int) ≤ (0 : Int); omega) (by show (0 : Int) ≤ (8 : Int); omega) (by show 1000 - (0 : Int) < _; omega)
set_option maxHeartbeats 4000000 in
theorem nl_X11_master {ad : Nat → Nat} {d : Nat} {m0 : Wm}  : ∀ n : Nat, (∀ (m : Wm) (x1 x2 x3 x4 : Int32), WT m → Fx (RS [9]) m0 m → (0 : Int) ≤ x2.toInt → x2.toInt ≤ (7 : Int) → (0 : Int) ≤ x4.toInt → x4.toInt ≤ (8 : Int) → 1000 - x4.toInt < (n : Int) → AW ad E0 μX11_master (d + 1) (fun r m' => WT m' ∧ Fx (RS [9]) m0 m' ∧ ∃ v : Int32, r = some (.int v) ∧ (((v.toInt = -1 ∨ v.toInt = -2) ∧ (m'.1 0 18).toInt = (m0.1 0 18).toInt) ∨ (0 ≤ v.toInt ∧ (m'.1 0 18).toInt = 3))) 34 [(0, .ref (ad 0)), (1, .int x1), (2, .int x2), (3, .int x3), (4, .int x4)] [] m) ∧ (∀ (m : Wm) (x1 x2 x3 x4 x5 x6 : Int32), WT m → Fx (RS [9]) m0 m → (0 : Int) ≤ x2.toInt → x2.toInt ≤ (7 : Int) → (0 : Int) ≤ x6.toInt → x6.toInt ≤ (8 : Int) → 8 - x6.toInt < (n : Int) → AW ad E0 μX11_master (d + 1) (fun r m' => WT m' ∧ Fx (RS [9]) m0 m' ∧ ∃ v : Int32, r = some (.int v) ∧ (((v.toInt = -1 ∨ v.toInt = -2) ∧ (m'.1 0 18).toInt = (m0.1 0 18).toInt) ∨ (0 ≤ v.toInt ∧ (m'.1 0 18).toInt = 3))) 105 [(0, .ref (ad 0)), (1, .int x1), (2, .int x2), (3, .int x3), (4, .int x4), (5, .int x5), (6, .int x6)] [] m) := by
  intro n
  induction n with
  | zero =>
    refine ⟨?_, ?_⟩ <;> intros <;> exfalso <;> omega
  | succ n ih =>
    refine ⟨?_, ?_⟩
    · intro m x1 x2 x3 x4 w f j1 j2 j3 j4 hn
      refine g_X11_master_34  ?_
      refine ⟨?_, ?_⟩
      · intro c1
        have r2 := w.at (a := 3) (k := 3) rfl
        have k3 := z_le c1
        refine (s_X8_skillOf w SS_21).to ?_
        rintro _ m1 ⟨w_m1, g4, v2, rfl⟩
        have f_m1 : Fx (RS [9]) m0 m1 := f.tr g4 (RS_sub rfl)
        have e5 : (m1.1 0 18).toInt = ((m.1 0 18)).toInt := congrArg _ (g4.at (a := 0) (k := 18) (by decide))
        have e6 : (m1.1 3 3).toInt = ((m.1 3 3)).toInt := congrArg _ (g4.at (a := 3) (k := 3) (by decide))
        refine ⟨v2, rfl, ?_⟩
        exact ih.2 _ _ _ _ _ _ _ w_m1 f_m1 (by show (0 : Int) ≤ (x2).toInt; omega) (by show (x2).toInt ≤ (7 : Int); omega) (by show (0 : Int) ≤ (0 : Int); omega) (by show (0 : Int) ≤ (8 : Int); omega) (by show 8 - (0 : Int) < _; omega)
      · intro c7
        have r8 := w.at (a := 3) (k := 3) rfl
        have k9 := z_nle c7
        refine (s_X8_skillOf w SS_21).to ?_
        rintro _ m3 ⟨w_m3, g10, v4, rfl⟩
        have f_m3 : Fx (RS [9]) m0 m3 := f.tr g10 (RS_sub rfl)
        have e11 : (m3.1 0 18).toInt = ((m.1 0 18)).toInt := congrArg _ (g10.at (a := 0) (k := 18) (by decide))
        have e12 : (m3.1 3 3).toInt = ((m.1 3 3)).toInt := congrArg _ (g10.at (a := 3) (k := 3) (by decide))
        refine ⟨v4, rfl, ?_⟩
        refine (s_X8_skillOf w_m3 SS_21).to ?_
        rintro _ m5 ⟨w_m5, g13, v6, rfl⟩
        have f_m5 : Fx (RS [9]) m0 m5 := f_m3.tr g13 (RS_sub rfl)
        have e14 : (m5.1 0 18).toInt = ((m3.1 0 18)).toInt := congrArg _ (g13.at (a := 0) (k := 18) (by decide))
        have e15 : (m5.1 3 3).toInt = ((m3.1 3 3)).toInt := congrArg _ (g13.at (a := 3) (k := 3) (by decide))
        refine ⟨v6, rfl, ?_⟩
        refine ⟨?_, ?_⟩
        · intro c16
          have k17 := z_le c16
          have t18 := ti_addc (x := x4) (y := (1 : Int32)) (c := 1) rfl (by omega)
          exact ih.1 _ _ _ _ _ w_m5 f_m5 (by show (0 : Int) ≤ (x2).toInt; omega) (by show (x2).toInt ≤ (7 : Int); omega) (by show (0 : Int) ≤ ((x4 + (1 : Int32))).toInt; omega) (by show ((x4 + (1 : Int32))).toInt ≤ (8 : Int); omega) (by show 1000 - ((x4 + (1 : Int32))).toInt < _; omega)
        · intro c19
          have k20 := z_nle c19
          have t21 := ti_addc (x := x4) (y := (1 : Int32)) (c := 1) rfl (by omega)
          exact ih.1 _ _ _ _ _ w_m5 f_m5 (by show (0 : Int) ≤ (x4).toInt; omega) (by show (x4).toInt ≤ (7 : Int); omega) (by show (0 : Int) ≤ ((x4 + (1 : Int32))).toInt; omega) (by show ((x4 + (1 : Int32))).toInt ≤ (8 : Int); omega) (by show 1000 - ((x4 + (1 : Int32))).toInt < _; omega)
    · intro m x1 x2 x3 x4 x5 x6 w f j1 j2 j3 j4 hn
      refine g_X11_master_105  ?_
      refine ⟨?_, ?_⟩
      · intro c1
        have r2 := w.at (a := 3) (k := 3) rfl
        have k3 := z_le c1
        refine (n_X11_tell__ w).to ?_
        rintro _ m1 ⟨w_m1, g4, rfl, p5⟩
        have f_m1 : Fx (RS [9]) m0 m1 := f.tr g4 (RS_sub rfl)
        have p6 : (m1.1 0 18).toInt = 3 := p5
        clear p5
        have e7 : (m1.1 3 3).toInt = ((m.1 3 3)).toInt := congrArg _ (g4.at (a := 3) (k := 3) (by decide))
        refine ⟨rfl, ?_⟩
        have r8 := w_m1.at (a := 0) (k := 18) rfl
        exact ⟨w_m1, f_m1, _, rfl, (by show (((x2).toInt = -1 ∨ (x2).toInt = -2) ∧ ((m1.1 0 18)).toInt = (m0.1 0 18).toInt) ∨ (0 ≤ (x2).toInt ∧ ((m1.1 0 18)).toInt = 3); omega)⟩
      · intro c9
        have r10 := w.at (a := 3) (k := 3) rfl
        have k11 := z_nle c9
        refine (s_X8_skillOf w SS_21).to ?_
        rintro _ m2 ⟨w_m2, g12, v3, rfl⟩
        have f_m2 : Fx (RS [9]) m0 m2 := f.tr g12 (RS_sub rfl)
        have e13 : (m2.1 0 18).toInt = ((m.1 0 18)).toInt := congrArg _ (g12.at (a := 0) (k := 18) (by decide))
        have e14 : (m2.1 3 3).toInt = ((m.1 3 3)).toInt := congrArg _ (g12.at (a := 3) (k := 3) (by decide))
        refine ⟨v3, rfl, ?_⟩
        refine ⟨?_, ?_⟩
        · intro c15
          have k16 := z_ne c15
          have t17 := ti_addc (x := x6) (y := (1 : Int32)) (c := 1) rfl (by omega)
          exact ih.2 _ _ _ _ _ _ _ w_m2 f_m2 (by show (0 : Int) ≤ (x2).toInt; omega) (by show (x2).toInt ≤ (7 : Int); omega) (by show (0 : Int) ≤ ((x6 + (1 : Int32))).toInt; omega) (by show ((x6 + (1 : Int32))).toInt ≤ (8 : Int); omega) (by show 8 - ((x6 + (1 : Int32))).toInt < _; omega)
        · intro c18
          have k19 := z_eq c18
          have t20 := ti_addc (x := x6) (y := (1 : Int32)) (c := 1) rfl (by omega)
          exact ih.2 _ _ _ _ _ _ _ w_m2 f_m2 (by show (0 : Int) ≤ (x2).toInt; omega) (by show (x2).toInt ≤ (7 : Int); omega) (by show (0 : Int) ≤ ((x6 + (1 : Int32))).toInt; omega) (by show ((x6 + (1 : Int32))).toInt ≤ (8 : Int); omega) (by show 8 - ((x6 + (1 : Int32))).toInt < _; omega)
set_option maxHeartbeats 4000000 in
theorem n_X11_master {ad : Nat → Nat} {d : Nat} {m : Wm} {x1 : Int32} (w : WT m) : Ct ad μX11_master (d + 1) [.ref (ad 0), .int x1] m (fun r m' => WT m' ∧ Fx (RS [9]) m m' ∧ ∃ v : Int32, r = some (.int v) ∧ (((v.toInt = -1 ∨ v.toInt = -2) ∧ (m'.1 0 18).toInt = (m.1 0 18).toInt) ∨ (0 ≤ v.toInt ∧ (m'.1 0 18).toInt = 3))) := by
  have f : Fx (RS [9]) m m := Fx.rf
  refine v_X11_master  ?_
  refine (s_X1_knows w).to ?_
  rintro _ m1 ⟨w_m1, g1, v2, rfl, p2, p3⟩
  have f_m1 : Fx (RS [9]) m m1 := f.tr g1 (RS_sub rfl)
  have e4 : (m1.1 0 18).toInt = ((m.1 0 18)).toInt := congrArg _ (g1.at (a := 0) (k := 18) (by decide))
  have e5 : (m1.1 3 3).toInt = ((m.1 3 3)).toInt := congrArg _ (g1.at (a := 3) (k := 3) (by decide))
  refine ⟨v2, rfl, ?_⟩
  refine ⟨?_, ?_⟩
  · intro c6
    have k7 := y_ner (n := 0) rfl c6
    refine ⟨?_, ?_⟩
    · intro c8
      have r9 := w_m1.at (a := 3) (k := 3) rfl
      have k10 := y_ner (n := 0) rfl c8
      exact (nl_X11_master (m0 := m) 1000000).1 _ _ _ _ _ w_m1 f_m1 (by show (0 : Int) ≤ (0 : Int); omega) (by show (0 : Int) ≤ (7 : Int); omega) (by show (0 : Int) ≤ (0 : Int); omega) (by show (0 : Int) ≤ (8 : Int); omega) (by show 1000 - (0 : Int) < _; omega)
    · intro c11
      have r12 := w_m1.at (a := 3) (k := 3) rfl
      have k13 := y_eqr (n := 0) rfl c11
      have r14 := w_m1.at (a := 0) (k := 18) rfl
      exact ⟨w_m1, f_m1, _, rfl, (by show (((-2 : Int) = -1 ∨ (-2 : Int) = -2) ∧ ((m1.1 0 18)).toInt = (m.1 0 18).toInt) ∨ (0 ≤ (-2 : Int) ∧ ((m1.1 0 18)).toInt = 3); omega)⟩
  · intro c15
    have k16 := y_eqr (n := 0) rfl c15
    have r17 := w_m1.at (a := 0) (k := 18) rfl
    exact ⟨w_m1, f_m1, _, rfl, (by show (((-1 : Int) = -1 ∨ (-1 : Int) = -2) ∧ ((m1.1 0 18)).toInt = (m.1 0 18).toInt) ∨ (0 ≤ (-1 : Int) ∧ ((m1.1 0 18)).toInt = 3); omega)⟩
set_option maxHeartbeats 4000000 in
theorem nl_X11_table {ad : Nat → Nat} {d : Nat} {m0 : Wm}  : ∀ n : Nat, (∀ (m : Wm) (x1 : Int32), WT m → Fx (RS [9, 14]) m0 m → (0 : Int) ≤ x1.toInt → x1.toInt ≤ (8 : Int) → ((m.1 3 3).toInt = (m0.1 3 3).toInt) → 1000 - x1.toInt < (n : Int) → AW ad E0 μX11_table (d + 5) (fun r m' => WT m' ∧ Fx (RS [9, 14]) m0 m' ∧ ∃ v : Int32, r = some (.int v) ∧ (v.toInt = (m0.1 3 3).toInt) ∧ ((m'.1 0 18).toInt = (m0.1 3 3).toInt)) 2 [(0, .ref (ad 0)), (1, .int x1)] [] m) ∧ (∀ (m : Wm) (x1 : Int32), WT m → Fx (RS [9, 14]) m0 m → (0 : Int) ≤ x1.toInt → x1.toInt ≤ (8 : Int) → ((m.1 3 3).toInt = (m0.1 3 3).toInt) → (8 - x1.toInt) * 20 + 15 < (n : Int) → AW ad E0 μX11_table (d + 5) (fun r m' => WT m' ∧ Fx (RS [9, 14]) m0 m' ∧ ∃ v : Int32, r = some (.int v) ∧ (v.toInt = (m0.1 3 3).toInt) ∧ ((m'.1 0 18).toInt = (m0.1 3 3).toInt)) 39 [(0, .ref (ad 0)), (1, .int x1)] [] m) ∧ (∀ (m : Wm) (x1 x2 x3 : Int32), WT m → Fx (RS [9, 14]) m0 m → (0 : Int) ≤ x1.toInt → x1.toInt ≤ (7 : Int) → (0 : Int) ≤ x2.toInt → x2.toInt ≤ (8 : Int) → (0 : Int) ≤ x3.toInt → x3.toInt ≤ (8 : Int) → (x2.toInt ≤ x3.toInt) → ((m.1 3 3).toInt = (m0.1 3 3).toInt) → (8 - x1.toInt) * 20 + 8 - x3.toInt < (n : Int) → AW ad E0 μX11_table (d + 5) (fun r m' => WT m' ∧ Fx (RS [9, 14]) m0 m' ∧ ∃ v : Int32, r = some (.int v) ∧ (v.toInt = (m0.1 3 3).toInt) ∧ ((m'.1 0 18).toInt = (m0.1 3 3).toInt)) 54 [(0, .ref (ad 0)), (1, .int x1), (2, .int x2), (3, .int x3)] [] m) := by
  intro n
  induction n with
  | zero =>
    refine ⟨?_, ?_, ?_⟩ <;> intros <;> exfalso <;> omega
  | succ n ih =>
    refine ⟨?_, ?_, ?_⟩
    · intro m x1 w f j1 j2 j3 hn
      refine g_X11_table_2  ?_
      refine ⟨?_, ?_⟩
      · intro c1
        have r2 := w.at (a := 3) (k := 3) rfl
        have k3 := z_le c1
        exact ih.2.1 _ _ w f (by show (0 : Int) ≤ (0 : Int); omega) (by show (0 : Int) ≤ (8 : Int); omega) (by show ((m.1 3 3)).toInt = (m0.1 3 3).toInt; omega) (by show (8 - (0 : Int)) * 20 + 15 < _; omega)
      · intro c4
        have r5 := w.at (a := 3) (k := 3) rfl
        have k6 := z_nle c4
        refine (s_X1_power w SS_21 (by show (0 : Int) ≤ (x1).toInt; omega) (by show (x1).toInt ≤ (7 : Int); omega)).to ?_
        rintro _ m1 ⟨w_m1, g7, v2, rfl⟩
        have f_m1 : Fx (RS [9, 14]) m0 m1 := f.tr g7 (RS_sub rfl)
        have e8 : (m1.1 3 3).toInt = ((m.1 3 3)).toInt := congrArg _ (g7.at (a := 3) (k := 3) (by decide))
        have e9 : (m1.1 0 18).toInt = ((m.1 0 18)).toInt := congrArg _ (g7.at (a := 0) (k := 18) (by decide))
        refine ⟨v2, rfl, ?_⟩
        refine ⟨?_, ?_⟩
        · exact vpi (by omega) (by omega)
        · have w10 : WT (uI m1 149 x1.toNatClampNeg v2) := w_m1.n rfl
          have f10 : Fx (RS [9, 14]) m0 (uI m1 149 x1.toNatClampNeg v2) := f_m1.i rfl
          have t11 := ti_addc (x := x1) (y := (1 : Int32)) (c := 1) rfl (by omega)
          have r12 := w_m1.at (a := 3) (k := 3) rfl
          exact ih.1 _ _ w10 f10 (by show (0 : Int) ≤ ((x1 + (1 : Int32))).toInt; omega) (by show ((x1 + (1 : Int32))).toInt ≤ (8 : Int); omega) (by show ((m1.1 3 3)).toInt = (m0.1 3 3).toInt; omega) (by show 1000 - ((x1 + (1 : Int32))).toInt < _; omega)
    · intro m x1 w f j1 j2 j3 hn
      refine g_X11_table_39  ?_
      refine ⟨?_, ?_⟩
      · intro c1
        have r2 := w.at (a := 3) (k := 3) rfl
        have k3 := z_le c1
        have w4 : WT (uI m 0 18 (m.1 3 3)) := w.t rfl (by show (0 : Int) ≤ ((m.1 3 3)).toInt; omega) (by show ((m.1 3 3)).toInt ≤ 10; omega)
        have f4 : Fx (RS [9, 14]) m0 (uI m 0 18 (m.1 3 3)) := f.i rfl
        exact ⟨w4, f4, _, rfl, (by show ((m.1 3 3)).toInt = (m0.1 3 3).toInt; omega), (by show ((m.1 3 3)).toInt = (m0.1 3 3).toInt; omega)⟩
      · intro c5
        have r6 := w.at (a := 3) (k := 3) rfl
        have k7 := z_nle c5
        exact ih.2.2 _ _ _ _ w f (by show (0 : Int) ≤ (x1).toInt; omega) (by show (x1).toInt ≤ (7 : Int); omega) (by show (0 : Int) ≤ (0 : Int); omega) (by show (0 : Int) ≤ (8 : Int); omega) (by show (0 : Int) ≤ (0 : Int); omega) (by show (0 : Int) ≤ (8 : Int); omega) (by show (0 : Int) ≤ (0 : Int); omega) (by show ((m.1 3 3)).toInt = (m0.1 3 3).toInt; omega) (by show (8 - (x1).toInt) * 20 + 8 - (0 : Int) < _; omega)
    · intro m x1 x2 x3 w f j1 j2 j3 j4 j5 j6 j7 j8 hn
      refine g_X11_table_54  ?_
      refine ⟨?_, ?_⟩
      · intro c1
        have r2 := w.at (a := 3) (k := 3) rfl
        have k3 := z_le c1
        refine ⟨?_, ?_⟩
        · exact vpi (by omega) (by omega)
        · have w4 : WT (uL m 150 x2.toNatClampNeg x1.toInt64) := w.l
          have f4 : Fx (RS [9, 14]) m0 (uL m 150 x2.toNatClampNeg x1.toInt64) := f.l rfl
          have t5 := ti_addc (x := x1) (y := (1 : Int32)) (c := 1) rfl (by omega)
          exact ih.2.1 _ _ w4 f4 (by show (0 : Int) ≤ ((x1 + (1 : Int32))).toInt; omega) (by show ((x1 + (1 : Int32))).toInt ≤ (8 : Int); omega) (by show ((m.1 3 3)).toInt = (m0.1 3 3).toInt; omega) (by show (8 - ((x1 + (1 : Int32))).toInt) * 20 + 15 < _; omega)
      · intro c6
        have r7 := w.at (a := 3) (k := 3) rfl
        have k8 := z_nle c6
        refine ⟨?_, ?_⟩
        · intro c9
          have k10 := z_eq c9
          have t11 := ti_addc (x := x3) (y := (1 : Int32)) (c := 1) rfl (by omega)
          exact ih.2.2 _ _ _ _ w f (by show (0 : Int) ≤ (x1).toInt; omega) (by show (x1).toInt ≤ (7 : Int); omega) (by show (0 : Int) ≤ (x2).toInt; omega) (by show (x2).toInt ≤ (8 : Int); omega) (by show (0 : Int) ≤ ((x3 + (1 : Int32))).toInt; omega) (by show ((x3 + (1 : Int32))).toInt ≤ (8 : Int); omega) (by show (x2).toInt ≤ ((x3 + (1 : Int32))).toInt; omega) (by show ((m.1 3 3)).toInt = (m0.1 3 3).toInt; omega) (by show (8 - (x1).toInt) * 20 + 8 - ((x3 + (1 : Int32))).toInt < _; omega)
        · intro c12
          have k13 := z_ne c12
          refine (s_X11_standsAhead w (by show (0 : Int) ≤ (x3).toInt; omega) (by show (x3).toInt ≤ (7 : Int); omega) (by show (0 : Int) ≤ (x1).toInt; omega) (by show (x1).toInt ≤ (7 : Int); omega)).to ?_
          rintro _ m1 ⟨w_m1, g14, v2, rfl, p15, p16⟩
          have f_m1 : Fx (RS [9, 14]) m0 m1 := f.tr g14 (RS_sub rfl)
          have e17 : (m1.1 3 3).toInt = ((m.1 3 3)).toInt := congrArg _ (g14.at (a := 3) (k := 3) (by decide))
          have e18 : (m1.1 0 18).toInt = ((m.1 0 18)).toInt := congrArg _ (g14.at (a := 0) (k := 18) (by decide))
          refine ⟨v2, rfl, ?_⟩
          refine ⟨?_, ?_⟩
          · intro c19
            have k20 := y_eqr (n := 0) rfl c19
            have t21 := ti_addc (x := x3) (y := (1 : Int32)) (c := 1) rfl (by omega)
            have r22 := w_m1.at (a := 3) (k := 3) rfl
            exact ih.2.2 _ _ _ _ w_m1 f_m1 (by show (0 : Int) ≤ (x1).toInt; omega) (by show (x1).toInt ≤ (7 : Int); omega) (by show (0 : Int) ≤ (x2).toInt; omega) (by show (x2).toInt ≤ (8 : Int); omega) (by show (0 : Int) ≤ ((x3 + (1 : Int32))).toInt; omega) (by show ((x3 + (1 : Int32))).toInt ≤ (8 : Int); omega) (by show (x2).toInt ≤ ((x3 + (1 : Int32))).toInt; omega) (by show ((m1.1 3 3)).toInt = (m0.1 3 3).toInt; omega) (by show (8 - (x1).toInt) * 20 + 8 - ((x3 + (1 : Int32))).toInt < _; omega)
          · intro c23
            have k24 := y_ner (n := 0) rfl c23
            have t25 := ti_addc (x := x2) (y := (1 : Int32)) (c := 1) rfl (by omega)
            have t26 := ti_addc (x := x3) (y := (1 : Int32)) (c := 1) rfl (by omega)
            have r27 := w_m1.at (a := 3) (k := 3) rfl
            exact ih.2.2 _ _ _ _ w_m1 f_m1 (by show (0 : Int) ≤ (x1).toInt; omega) (by show (x1).toInt ≤ (7 : Int); omega) (by show (0 : Int) ≤ ((x2 + (1 : Int32))).toInt; omega) (by show ((x2 + (1 : Int32))).toInt ≤ (8 : Int); omega) (by show (0 : Int) ≤ ((x3 + (1 : Int32))).toInt; omega) (by show ((x3 + (1 : Int32))).toInt ≤ (8 : Int); omega) (by show ((x2 + (1 : Int32))).toInt ≤ ((x3 + (1 : Int32))).toInt; omega) (by show ((m1.1 3 3)).toInt = (m0.1 3 3).toInt; omega) (by show (8 - (x1).toInt) * 20 + 8 - ((x3 + (1 : Int32))).toInt < _; omega)
set_option maxHeartbeats 4000000 in
theorem n_X11_table {ad : Nat → Nat} {d : Nat} {m : Wm} (w : WT m) : Ct ad μX11_table (d + 5) [.ref (ad 0)] m (fun r m' => WT m' ∧ Fx (RS [9, 14]) m m' ∧ ∃ v : Int32, r = some (.int v) ∧ (v.toInt = (m.1 3 3).toInt) ∧ ((m'.1 0 18).toInt = (m.1 3 3).toInt)) := by
  have f : Fx (RS [9, 14]) m m := Fx.rf
  refine v_X11_table  ?_
  have r1 := w.at (a := 3) (k := 3) rfl
  exact (nl_X11_table (m0 := m) 1000000).1 _ _ w f (by show (0 : Int) ≤ (0 : Int); omega) (by show (0 : Int) ≤ (8 : Int); omega) (by show ((m.1 3 3)).toInt = (m.1 3 3).toInt; omega) (by show 1000 - (0 : Int) < _; omega)
set_option maxHeartbeats 4000000 in
theorem n_X11_spread {ad : Nat → Nat} {d : Nat} {m : Wm} (w : WT m) : Ct ad μX11_spread (d + 6) [.ref (ad 0)] m (fun r m' => WT m' ∧ Fx (RS [9, 14]) m m' ∧ ∃ v : Int32, r = some (.int v) ∧ (((m.1 3 3).toInt = 0 ∧ (m'.1 0 18).toInt = 0) ∨ ((m.1 3 3).toInt ≠ 0 ∧ (m'.1 0 18).toInt = 2))) := by
  have f : Fx (RS [9, 14]) m m := Fx.rf
  refine v_X11_spread  ?_
  refine ⟨?_, ?_⟩
  · intro c1
    have r2 := w.at (a := 3) (k := 3) rfl
    have k3 := y_ner (n := 0) rfl c1
    refine (s_X1_strongest w SS_21).to ?_
    rintro _ m1 ⟨w_m1, g4, v2, rfl, p5, p6⟩
    have f_m1 : Fx (RS [9, 14]) m m1 := f.tr g4 (RS_sub rfl)
    have e7 : (m1.1 0 18).toInt = ((m.1 0 18)).toInt := congrArg _ (g4.at (a := 0) (k := 18) (by decide))
    have e8 : (m1.1 3 3).toInt = ((m.1 3 3)).toInt := congrArg _ (g4.at (a := 3) (k := 3) (by decide))
    refine ⟨v2, rfl, ?_⟩
    refine (s_X1_weakest w_m1 SS_21).to ?_
    rintro _ m3 ⟨w_m3, g9, v4, rfl, p10, p11⟩
    have f_m3 : Fx (RS [9, 14]) m m3 := f_m1.tr g9 (RS_sub rfl)
    have e12 : (m3.1 0 18).toInt = ((m1.1 0 18)).toInt := congrArg _ (g9.at (a := 0) (k := 18) (by decide))
    have e13 : (m3.1 3 3).toInt = ((m1.1 3 3)).toInt := congrArg _ (g9.at (a := 3) (k := 3) (by decide))
    refine ⟨v4, rfl, ?_⟩
    refine (n_X11_tell_ w_m3).to ?_
    rintro _ m5 ⟨w_m5, g14, rfl, p15⟩
    have f_m5 : Fx (RS [9, 14]) m m5 := f_m3.tr g14 (RS_sub rfl)
    have p16 : (m5.1 0 18).toInt = 2 := p15
    clear p15
    have e17 : (m5.1 3 3).toInt = ((m3.1 3 3)).toInt := congrArg _ (g14.at (a := 3) (k := 3) (by decide))
    refine ⟨rfl, ?_⟩
    refine (s_X1_power w_m5 SS_21 (by show (0 : Int) ≤ (v2).toInt; omega) (by show (v2).toInt ≤ (7 : Int); omega)).to ?_
    rintro _ m6 ⟨w_m6, g18, v7, rfl⟩
    have f_m6 : Fx (RS [9, 14]) m m6 := f_m5.tr g18 (RS_sub rfl)
    have e19 : (m6.1 0 18).toInt = ((m5.1 0 18)).toInt := congrArg _ (g18.at (a := 0) (k := 18) (by decide))
    have e20 : (m6.1 3 3).toInt = ((m5.1 3 3)).toInt := congrArg _ (g18.at (a := 3) (k := 3) (by decide))
    refine ⟨v7, rfl, ?_⟩
    refine (s_X1_power w_m6 SS_21 (by show (0 : Int) ≤ (v4).toInt; omega) (by show (v4).toInt ≤ (7 : Int); omega)).to ?_
    rintro _ m8 ⟨w_m8, g21, v9, rfl⟩
    have f_m8 : Fx (RS [9, 14]) m m8 := f_m6.tr g21 (RS_sub rfl)
    have e22 : (m8.1 0 18).toInt = ((m6.1 0 18)).toInt := congrArg _ (g21.at (a := 0) (k := 18) (by decide))
    have e23 : (m8.1 3 3).toInt = ((m6.1 3 3)).toInt := congrArg _ (g21.at (a := 3) (k := 3) (by decide))
    refine ⟨v9, rfl, ?_⟩
    have r24 := w_m8.at (a := 0) (k := 18) rfl
    exact ⟨w_m8, f_m8, _, rfl, (by show ((m.1 3 3).toInt = 0 ∧ ((m8.1 0 18)).toInt = 0) ∨ ((m.1 3 3).toInt ≠ 0 ∧ ((m8.1 0 18)).toInt = 2); omega)⟩
  · intro c25
    have r26 := w.at (a := 3) (k := 3) rfl
    have k27 := y_eqr (n := 0) rfl c25
    have w28 : WT (uI m 0 18 (0 : Int32)) := w.t rfl (by show (0 : Int) ≤ (0 : Int); omega) (by show (0 : Int) ≤ 10; omega)
    have f28 : Fx (RS [9, 14]) m (uI m 0 18 (0 : Int32)) := f.i rfl
    exact ⟨w28, f28, _, rfl, (by show ((m.1 3 3).toInt = 0 ∧ (0 : Int) = 0) ∨ ((m.1 3 3).toInt ≠ 0 ∧ (0 : Int) = 2); omega)⟩
set_option maxHeartbeats 4000000 in
theorem n_X11_rest {ad : Nat → Nat} {d : Nat} {m : Wm} (w : WT m) : Ct ad μX11_rest (d + 7) [.ref (ad 0)] m (fun r m' => WT m' ∧ Fx (RS [2, 9, 10, 12, 14]) m m' ∧ ∃ v : Int32, r = some (.int v) ∧ (((v.toInt = -1 ∨ v.toInt = -3) ∧ (m'.1 0 18).toInt = (m.1 0 18).toInt) ∨ (0 ≤ v.toInt ∧ (m'.1 0 18).toInt = 2))) := by
  have f : Fx (RS [2, 9, 10, 12, 14]) m m := Fx.rf
  refine v_X11_rest  ?_
  obtain ⟨r1, e1, q2⟩ := w.r09
  refine ⟨r1, e1, Pl_of q2, ?_⟩
  refine ⟨?_, ?_⟩
  · intro c3
    have r4 := w.pl (k := 5) q2 rfl rfl
    have k5 := y_ner (n := 0) rfl c3
    refine ⟨r1, e1, Pl_of q2, ?_⟩
    refine (s_X7_findLoop w q2).to ?_
    rintro _ m3 ⟨w_m3, g6, v4, rfl, p7, p8⟩
    have f_m3 : Fx (RS [2, 9, 10, 12, 14]) m m3 := f.tr g6 (RS_sub rfl)
    have e9 : (m3.1 0 18).toInt = ((m.1 0 18)).toInt := congrArg _ (g6.at (a := 0) (k := 18) (by decide))
    have e10 : (m3.1 3 3).toInt = ((m.1 3 3)).toInt := congrArg _ (g6.at (a := 3) (k := 3) (by decide))
    refine ⟨v4, rfl, ?_⟩
    refine ⟨?_, ?_⟩
    · intro c11
      have k12 := y_ner (n := 0) rfl c11
      have r13 := w_m3.at (a := 166) (k := 3) rfl
      refine (s_X9_total w_m3 (by show (0 : Int) ≤ ((m3.1 166 3)).toInt; omega) (by show ((m3.1 166 3)).toInt ≤ (2999 : Int); omega)).to ?_
      rintro _ m5 ⟨w_m5, g14, v6, rfl⟩
      have f_m5 : Fx (RS [2, 9, 10, 12, 14]) m m5 := f_m3.tr g14 (RS_sub rfl)
      have e15 : (m5.1 0 18).toInt = ((m3.1 0 18)).toInt := congrArg _ (g14.at (a := 0) (k := 18) (by decide))
      have e16 : (m5.1 3 3).toInt = ((m3.1 3 3)).toInt := congrArg _ (g14.at (a := 3) (k := 3) (by decide))
      refine ⟨v6, rfl, ?_⟩
      refine (n_X11_tell_ w_m5).to ?_
      rintro _ m7 ⟨w_m7, g17, rfl, p18⟩
      have f_m7 : Fx (RS [2, 9, 10, 12, 14]) m m7 := f_m5.tr g17 (RS_sub rfl)
      have p19 : (m7.1 0 18).toInt = 2 := p18
      clear p18
      have e20 : (m7.1 3 3).toInt = ((m5.1 3 3)).toInt := congrArg _ (g17.at (a := 3) (k := 3) (by decide))
      refine ⟨rfl, ?_⟩
      have r21 := w_m7.at (a := 166) (k := 3) rfl
      have r22 := w_m7.at (a := 0) (k := 18) rfl
      exact ⟨w_m7, f_m7, _, rfl, (by show ((((m7.1 166 3)).toInt = -1 ∨ ((m7.1 166 3)).toInt = -3) ∧ ((m7.1 0 18)).toInt = (m.1 0 18).toInt) ∨ (0 ≤ ((m7.1 166 3)).toInt ∧ ((m7.1 0 18)).toInt = 2); omega)⟩
    · intro c23
      have k24 := y_eqr (n := 0) rfl c23
      have r25 := w_m3.at (a := 0) (k := 18) rfl
      exact ⟨w_m3, f_m3, _, rfl, (by show (((-3 : Int) = -1 ∨ (-3 : Int) = -3) ∧ ((m3.1 0 18)).toInt = (m.1 0 18).toInt) ∨ (0 ≤ (-3 : Int) ∧ ((m3.1 0 18)).toInt = 2); omega)⟩
  · intro c26
    have r27 := w.pl (k := 5) q2 rfl rfl
    have k28 := y_eqr (n := 0) rfl c26
    have r29 := w.at (a := 0) (k := 18) rfl
    exact ⟨w, f, _, rfl, (by show (((-1 : Int) = -1 ∨ (-1 : Int) = -3) ∧ ((m.1 0 18)).toInt = (m.1 0 18).toInt) ∨ (0 ≤ (-1 : Int) ∧ ((m.1 0 18)).toInt = 2); omega)⟩
set_option maxHeartbeats 4000000 in
theorem n_X11_mean {ad : Nat → Nat} {d : Nat} {m : Wm} {x1 x2 : Int32} (w : WT m) : Ct ad μX11_mean (d + 7) [.ref (ad 0), .int x1, .int x2] m (fun r m' => WT m' ∧ Fx (RS [2, 9, 10, 12, 14]) m m' ∧ ∃ v : Int32, r = some (.int v) ∧ (((v.toInt = -1 ∨ v.toInt = -3) ∧ (m'.1 0 18).toInt = (m.1 0 18).toInt) ∨ (0 ≤ v.toInt ∧ (m'.1 0 18).toInt = 2))) := by
  have f : Fx (RS [2, 9, 10, 12, 14]) m m := Fx.rf
  refine v_X11_mean  ?_
  refine (s_X1_has w).to ?_
  rintro _ m1 ⟨w_m1, g1, v2, rfl, p3, p4, p2⟩
  have f_m1 : Fx (RS [2, 9, 10, 12, 14]) m m1 := f.tr g1 (RS_sub rfl)
  have p5 : (v2.toInt = 0 ∧ ((x1).toInt < 0 ∨ ((m.1 3 3)).toInt ≤ (x1).toInt)) ∨ (v2.toInt = 1 ∧ 0 ≤ (x1).toInt ∧ (x1).toInt < ((m.1 3 3)).toInt ∧ (x1).toInt ≤ 7) := p2
  clear p2
  have e6 : (m1.1 0 18).toInt = ((m.1 0 18)).toInt := congrArg _ (g1.at (a := 0) (k := 18) (by decide))
  have e7 : (m1.1 3 3).toInt = ((m.1 3 3)).toInt := congrArg _ (g1.at (a := 3) (k := 3) (by decide))
  refine ⟨v2, rfl, ?_⟩
  refine ⟨?_, ?_⟩
  · intro c8
    have k9 := y_eqr (n := 0) rfl c8
    have r10 := w_m1.at (a := 0) (k := 18) rfl
    exact ⟨w_m1, f_m1, _, rfl, (by show (((-1 : Int) = -1 ∨ (-1 : Int) = -3) ∧ ((m1.1 0 18)).toInt = (m.1 0 18).toInt) ∨ (0 ≤ (-1 : Int) ∧ ((m1.1 0 18)).toInt = 2); omega)⟩
  · intro c11
    have k12 := y_ner (n := 0) rfl c11
    refine (s_X1_knows w_m1).to ?_
    rintro _ m3 ⟨w_m3, g13, v4, rfl, p14, p15⟩
    have f_m3 : Fx (RS [2, 9, 10, 12, 14]) m m3 := f_m1.tr g13 (RS_sub rfl)
    have e16 : (m3.1 0 18).toInt = ((m1.1 0 18)).toInt := congrArg _ (g13.at (a := 0) (k := 18) (by decide))
    have e17 : (m3.1 3 3).toInt = ((m1.1 3 3)).toInt := congrArg _ (g13.at (a := 3) (k := 3) (by decide))
    refine ⟨v4, rfl, ?_⟩
    refine ⟨?_, ?_⟩
    · intro c18
      have k19 := y_eqr (n := 0) rfl c18
      have r20 := w_m3.at (a := 0) (k := 18) rfl
      exact ⟨w_m3, f_m3, _, rfl, (by show (((-1 : Int) = -1 ∨ (-1 : Int) = -3) ∧ ((m3.1 0 18)).toInt = (m.1 0 18).toInt) ∨ (0 ≤ (-1 : Int) ∧ ((m3.1 0 18)).toInt = 2); omega)⟩
    · intro c21
      have k22 := y_ner (n := 0) rfl c21
      obtain ⟨r5, e23, q24⟩ := w_m3.r09
      refine ⟨r5, e23, Pl_of q24, ?_⟩
      refine ⟨?_, ?_⟩
      · intro c25
        have r26 := w_m3.pl (k := 5) q24 rfl rfl
        have k27 := y_ner (n := 0) rfl c25
        refine ⟨r5, e23, Pl_of q24, ?_⟩
        refine (s_X7_findLoop w_m3 q24).to ?_
        rintro _ m7 ⟨w_m7, g28, v8, rfl, p29, p30⟩
        have f_m7 : Fx (RS [2, 9, 10, 12, 14]) m m7 := f_m3.tr g28 (RS_sub rfl)
        have e31 : (m7.1 0 18).toInt = ((m3.1 0 18)).toInt := congrArg _ (g28.at (a := 0) (k := 18) (by decide))
        have e32 : (m7.1 3 3).toInt = ((m3.1 3 3)).toInt := congrArg _ (g28.at (a := 3) (k := 3) (by decide))
        refine ⟨v8, rfl, ?_⟩
        refine ⟨?_, ?_⟩
        · intro c33
          have k34 := y_ner (n := 0) rfl c33
          refine (s_X7_loopSum w_m7).to ?_
          rintro _ m9 ⟨w_m9, g35, v10, rfl⟩
          have f_m9 : Fx (RS [2, 9, 10, 12, 14]) m m9 := f_m7.tr g35 (RS_sub rfl)
          have e36 : (m9.1 0 18).toInt = ((m7.1 0 18)).toInt := congrArg _ (g35.at (a := 0) (k := 18) (by decide))
          have e37 : (m9.1 3 3).toInt = ((m7.1 3 3)).toInt := congrArg _ (g35.at (a := 3) (k := 3) (by decide))
          refine ⟨v10, rfl, ?_⟩
          refine (n_X11_tellFraction w_m9).to ?_
          rintro _ m11 ⟨w_m11, g38, rfl, p39⟩
          have f_m11 : Fx (RS [2, 9, 10, 12, 14]) m m11 := f_m9.tr g38 (RS_sub rfl)
          have p40 : (m11.1 0 18).toInt = 2 := p39
          clear p39
          have e41 : (m11.1 3 3).toInt = ((m9.1 3 3)).toInt := congrArg _ (g38.at (a := 3) (k := 3) (by decide))
          refine ⟨rfl, ?_⟩
          have r42 := w_m11.at (a := 0) (k := 18) rfl
          exact ⟨w_m11, f_m11, _, rfl, (by show (((0 : Int) = -1 ∨ (0 : Int) = -3) ∧ ((m11.1 0 18)).toInt = (m.1 0 18).toInt) ∨ (0 ≤ (0 : Int) ∧ ((m11.1 0 18)).toInt = 2); omega)⟩
        · intro c43
          have k44 := y_eqr (n := 0) rfl c43
          have r45 := w_m7.at (a := 0) (k := 18) rfl
          exact ⟨w_m7, f_m7, _, rfl, (by show (((-3 : Int) = -1 ∨ (-3 : Int) = -3) ∧ ((m7.1 0 18)).toInt = (m.1 0 18).toInt) ∨ (0 ≤ (-3 : Int) ∧ ((m7.1 0 18)).toInt = 2); omega)⟩
      · intro c46
        have r47 := w_m3.pl (k := 5) q24 rfl rfl
        have k48 := y_eqr (n := 0) rfl c46
        have r49 := w_m3.at (a := 0) (k := 18) rfl
        exact ⟨w_m3, f_m3, _, rfl, (by show (((-1 : Int) = -1 ∨ (-1 : Int) = -3) ∧ ((m3.1 0 18)).toInt = (m.1 0 18).toInt) ∨ (0 ≤ (-1 : Int) ∧ ((m3.1 0 18)).toInt = 2); omega)⟩
set_option maxHeartbeats 4000000 in
theorem nl_X11_wins {ad : Nat → Nat} {d : Nat} {m0 : Wm}  : ∀ n : Nat, (∀ (m : Wm) (x1 x2 x3 x6 : Int32) (y4 : Int64), WT m → Fx (RS [2, 9, 12, 14]) m0 m → (0 : Int) ≤ x1.toInt → x1.toInt ≤ (7 : Int) → (1 : Int) ≤ x2.toInt → x2.toInt ≤ (6 : Int) → (0 : Int) ≤ x6.toInt → x6.toInt ≤ (64 : Int) → 64 - x6.toInt < (n : Int) → AW ad E0 μX11_wins (d + 7) (fun r m' => WT m' ∧ Fx (RS [2, 9, 12, 14]) m0 m' ∧ ∃ v : Int32, r = some (.int v) ∧ ((v.toInt = -1 ∧ (m'.1 0 18).toInt = (m0.1 0 18).toInt) ∨ (0 ≤ v.toInt ∧ (m'.1 0 18).toInt = 2))) 49 [(0, .ref (ad 0)), (1, .int x1), (2, .int x2), (3, .int x3), (4, .long y4), (6, .int x6)] [] m) := by
  intro n
  induction n with
  | zero =>
    intros
    exfalso
    omega
  | succ n ih =>
    intro m x1 x2 x3 x6 y4 w f j1 j2 j3 j4 j5 j6 hn
    refine g_X11_wins_49  ?_
    refine ⟨?_, ?_⟩
    · intro c1
      have t2 := t_shl1 (x := x2) (by omega) (by omega)
      have k3 := z_le c1
      refine (s_X11_allChances w (by show (0 : Int) ≤ (x2).toInt; omega) (by show (x2).toInt ≤ (6 : Int); omega)).to ?_
      rintro _ m1 ⟨w_m1, g4, w2, rfl⟩
      have f_m1 : Fx (RS [2, 9, 12, 14]) m0 m1 := f.tr g4 (RS_sub rfl)
      have e5 : (m1.1 0 18).toInt = ((m.1 0 18)).toInt := congrArg _ (g4.at (a := 0) (k := 18) (by decide))
      have e6 : (m1.1 3 3).toInt = ((m.1 3 3)).toInt := congrArg _ (g4.at (a := 3) (k := 3) (by decide))
      refine ⟨w2, rfl, ?_⟩
      refine (n_X11_tellFraction w_m1).to ?_
      rintro _ m3 ⟨w_m3, g7, rfl, p8⟩
      have f_m3 : Fx (RS [2, 9, 12, 14]) m0 m3 := f_m1.tr g7 (RS_sub rfl)
      have p9 : (m3.1 0 18).toInt = 2 := p8
      clear p8
      have e10 : (m3.1 3 3).toInt = ((m1.1 3 3)).toInt := congrArg _ (g7.at (a := 3) (k := 3) (by decide))
      refine ⟨rfl, ?_⟩
      have r11 := w_m3.at (a := 0) (k := 18) rfl
      exact ⟨w_m3, f_m3, _, rfl, (by show ((0 : Int) = -1 ∧ ((m3.1 0 18)).toInt = (m0.1 0 18).toInt) ∨ (0 ≤ (0 : Int) ∧ ((m3.1 0 18)).toInt = 2); omega)⟩
    · intro c12
      have t13 := t_shl1 (x := x2) (by omega) (by omega)
      have k14 := z_nle c12
      obtain ⟨r4, e15, q16⟩ := w.r09
      refine ⟨r4, e15, Pl_of q16, ?_⟩
      refine (s_X7_follow w q16 (by show (0 : Int) ≤ (x2).toInt; omega) (by show (x2).toInt ≤ (6 : Int); omega)).to ?_
      rintro _ m5 ⟨w_m5, g17, w6, rfl⟩
      have f_m5 : Fx (RS [2, 9, 12, 14]) m0 m5 := f.tr g17 (RS_sub rfl)
      have e18 : (m5.1 0 18).toInt = ((m.1 0 18)).toInt := congrArg _ (g17.at (a := 0) (k := 18) (by decide))
      have e19 : (m5.1 3 3).toInt = ((m.1 3 3)).toInt := congrArg _ (g17.at (a := 3) (k := 3) (by decide))
      refine ⟨w6, rfl, ?_⟩
      refine ⟨?_, ?_⟩
      · intro c20
        have t21 := ti_addc (x := x6) (y := (1 : Int32)) (c := 1) rfl (by omega)
        exact ih _ _ _ _ _ _ w_m5 f_m5 (by show (0 : Int) ≤ (x1).toInt; omega) (by show (x1).toInt ≤ (7 : Int); omega) (by show (1 : Int) ≤ (x2).toInt; omega) (by show (x2).toInt ≤ (6 : Int); omega) (by show (0 : Int) ≤ ((x6 + (1 : Int32))).toInt; omega) (by show ((x6 + (1 : Int32))).toInt ≤ (64 : Int); omega) (by show 64 - ((x6 + (1 : Int32))).toInt < _; omega)
      · intro c22
        refine ⟨?_, ?_⟩
        · exact vpi (by omega) (by omega)
        · refine ⟨?_, ?_⟩
          · intro c23
            have k24 := z_ne c23
            have t25 := ti_addc (x := x6) (y := (1 : Int32)) (c := 1) rfl (by omega)
            exact ih _ _ _ _ _ _ w_m5 f_m5 (by show (0 : Int) ≤ (x1).toInt; omega) (by show (x1).toInt ≤ (7 : Int); omega) (by show (1 : Int) ≤ (x2).toInt; omega) (by show (x2).toInt ≤ (6 : Int); omega) (by show (0 : Int) ≤ ((x6 + (1 : Int32))).toInt; omega) (by show ((x6 + (1 : Int32))).toInt ≤ (64 : Int); omega) (by show 64 - ((x6 + (1 : Int32))).toInt < _; omega)
          · intro c26
            have k27 := z_eq c26
            have t28 := ti_addc (x := x6) (y := (1 : Int32)) (c := 1) rfl (by omega)
            exact ih _ _ _ _ _ _ w_m5 f_m5 (by show (0 : Int) ≤ (x1).toInt; omega) (by show (x1).toInt ≤ (7 : Int); omega) (by show (1 : Int) ≤ (x2).toInt; omega) (by show (x2).toInt ≤ (6 : Int); omega) (by show (0 : Int) ≤ ((x6 + (1 : Int32))).toInt; omega) (by show ((x6 + (1 : Int32))).toInt ≤ (64 : Int); omega) (by show 64 - ((x6 + (1 : Int32))).toInt < _; omega)
set_option maxHeartbeats 4000000 in
theorem n_X11_wins {ad : Nat → Nat} {d : Nat} {m : Wm} {x1 x2 x3 : Int32} (w : WT m) : Ct ad μX11_wins (d + 7) [.ref (ad 0), .int x1, .int x2, .int x3] m (fun r m' => WT m' ∧ Fx (RS [2, 9, 12, 14]) m m' ∧ ∃ v : Int32, r = some (.int v) ∧ ((v.toInt = -1 ∧ (m'.1 0 18).toInt = (m.1 0 18).toInt) ∨ (0 ≤ v.toInt ∧ (m'.1 0 18).toInt = 2))) := by
  have f : Fx (RS [2, 9, 12, 14]) m m := Fx.rf
  refine v_X11_wins  ?_
  refine (s_X1_has w).to ?_
  rintro _ m1 ⟨w_m1, g1, v2, rfl, p3, p4, p2⟩
  have f_m1 : Fx (RS [2, 9, 12, 14]) m m1 := f.tr g1 (RS_sub rfl)
  have p5 : (v2.toInt = 0 ∧ ((x1).toInt < 0 ∨ ((m.1 3 3)).toInt ≤ (x1).toInt)) ∨ (v2.toInt = 1 ∧ 0 ≤ (x1).toInt ∧ (x1).toInt < ((m.1 3 3)).toInt ∧ (x1).toInt ≤ 7) := p2
  clear p2
  have e6 : (m1.1 0 18).toInt = ((m.1 0 18)).toInt := congrArg _ (g1.at (a := 0) (k := 18) (by decide))
  have e7 : (m1.1 3 3).toInt = ((m.1 3 3)).toInt := congrArg _ (g1.at (a := 3) (k := 3) (by decide))
  refine ⟨v2, rfl, ?_⟩
  refine ⟨?_, ?_⟩
  · intro c8
    have k9 := y_eqr (n := 0) rfl c8
    have r10 := w_m1.at (a := 0) (k := 18) rfl
    exact ⟨w_m1, f_m1, _, rfl, (by show ((-1 : Int) = -1 ∧ ((m1.1 0 18)).toInt = (m.1 0 18).toInt) ∨ (0 ≤ (-1 : Int) ∧ ((m1.1 0 18)).toInt = 2); omega)⟩
  · intro c11
    have k12 := y_ner (n := 0) rfl c11
    refine ⟨?_, ?_⟩
    · intro c13
      have k14 := y_ltr (n := 1) rfl c13
      have r15 := w_m1.at (a := 0) (k := 18) rfl
      exact ⟨w_m1, f_m1, _, rfl, (by show ((-1 : Int) = -1 ∧ ((m1.1 0 18)).toInt = (m.1 0 18).toInt) ∨ (0 ≤ (-1 : Int) ∧ ((m1.1 0 18)).toInt = 2); omega)⟩
    · intro c16
      have k17 := y_nltr (n := 1) rfl c16
      refine ⟨?_, ?_⟩
      · intro c18
        have k19 := y_ltl (n := 6) rfl c18
        have r20 := w_m1.at (a := 0) (k := 18) rfl
        exact ⟨w_m1, f_m1, _, rfl, (by show ((-1 : Int) = -1 ∧ ((m1.1 0 18)).toInt = (m.1 0 18).toInt) ∨ (0 ≤ (-1 : Int) ∧ ((m1.1 0 18)).toInt = 2); omega)⟩
      · intro c21
        have k22 := y_nltl (n := 6) rfl c21
        refine ⟨?_, ?_⟩
        · intro c23
          have k24 := y_ltr (n := 0) rfl c23
          have r25 := w_m1.at (a := 0) (k := 18) rfl
          exact ⟨w_m1, f_m1, _, rfl, (by show ((-1 : Int) = -1 ∧ ((m1.1 0 18)).toInt = (m.1 0 18).toInt) ∨ (0 ≤ (-1 : Int) ∧ ((m1.1 0 18)).toInt = 2); omega)⟩
        · intro c26
          have k27 := y_nltr (n := 0) rfl c26
          refine ⟨?_, ?_⟩
          · intro c28
            have k29 := z_lt c28
            have r30 := w_m1.at (a := 0) (k := 18) rfl
            exact ⟨w_m1, f_m1, _, rfl, (by show ((-1 : Int) = -1 ∧ ((m1.1 0 18)).toInt = (m.1 0 18).toInt) ∨ (0 ≤ (-1 : Int) ∧ ((m1.1 0 18)).toInt = 2); omega)⟩
          · intro c31
            have k32 := z_nlt c31
            obtain ⟨r3, e33, q34⟩ := w_m1.r09
            refine ⟨r3, e33, Pl_of q34, ?_⟩
            refine ⟨?_, ?_⟩
            · intro c35
              have r36 := w_m1.pl (k := 5) q34 rfl rfl
              have k37 := y_ner (n := 0) rfl c35
              exact (nl_X11_wins (m0 := m) 1000000) _ _ _ _ _ _ w_m1 f_m1 (by show (0 : Int) ≤ (x1).toInt; omega) (by show (x1).toInt ≤ (7 : Int); omega) (by show (1 : Int) ≤ (x2).toInt; omega) (by show (x2).toInt ≤ (6 : Int); omega) (by show (0 : Int) ≤ (0 : Int); omega) (by show (0 : Int) ≤ (64 : Int); omega) (by show 64 - (0 : Int) < _; omega)
            · intro c38
              have r39 := w_m1.pl (k := 5) q34 rfl rfl
              have k40 := y_eqr (n := 0) rfl c38
              have r41 := w_m1.at (a := 0) (k := 18) rfl
              exact ⟨w_m1, f_m1, _, rfl, (by show ((-1 : Int) = -1 ∧ ((m1.1 0 18)).toInt = (m.1 0 18).toInt) ∨ (0 ≤ (-1 : Int) ∧ ((m1.1 0 18)).toInt = 2); omega)⟩
set_option maxHeartbeats 4000000 in
theorem nl_X11_hopes {ad : Nat → Nat} {d : Nat} {m0 : Wm}  : ∀ n : Nat, (∀ (m : Wm) (x1 x4 x5 x6 : Int32) (y2 : Int64), WT m → Fx (RS [2, 9, 12, 14]) m0 m → (1 : Int) ≤ x1.toInt → x1.toInt ≤ (6 : Int) → (0 : Int) ≤ x6.toInt → x6.toInt ≤ (64 : Int) → 64 - x6.toInt < (n : Int) → AW ad E0 μX11_hopes (d + 7) (fun r m' => WT m' ∧ Fx (RS [2, 9, 12, 14]) m0 m' ∧ ∃ v : Int32, r = some (.int v) ∧ ((v.toInt = -1 ∧ (m'.1 0 18).toInt = (m0.1 0 18).toInt) ∨ (0 ≤ v.toInt ∧ (m'.1 0 18).toInt = 4))) 36 [(0, .ref (ad 0)), (1, .int x1), (2, .long y2), (4, .int x4), (5, .int x5), (6, .int x6)] [] m) := by
  intro n
  induction n with
  | zero =>
    intros
    exfalso
    omega
  | succ n ih =>
    intro m x1 x4 x5 x6 y2 w f j1 j2 j3 j4 hn
    refine g_X11_hopes_36  ?_
    refine ⟨?_, ?_⟩
    · intro c1
      have t2 := t_shl1 (x := x1) (by omega) (by omega)
      have k3 := z_le c1
      refine (s_X11_allChances w (by show (0 : Int) ≤ (x1).toInt; omega) (by show (x1).toInt ≤ (6 : Int); omega)).to ?_
      rintro _ m1 ⟨w_m1, g4, w2, rfl⟩
      have f_m1 : Fx (RS [2, 9, 12, 14]) m0 m1 := f.tr g4 (RS_sub rfl)
      have e5 : (m1.1 0 18).toInt = ((m.1 0 18)).toInt := congrArg _ (g4.at (a := 0) (k := 18) (by decide))
      have e6 : (m1.1 3 3).toInt = ((m.1 3 3)).toInt := congrArg _ (g4.at (a := 3) (k := 3) (by decide))
      refine ⟨w2, rfl, ?_⟩
      refine (n_X11_tellFraction w_m1).to ?_
      rintro _ m3 ⟨w_m3, g7, rfl, p8⟩
      have f_m3 : Fx (RS [2, 9, 12, 14]) m0 m3 := f_m1.tr g7 (RS_sub rfl)
      have p9 : (m3.1 0 18).toInt = 2 := p8
      clear p8
      have e10 : (m3.1 3 3).toInt = ((m1.1 3 3)).toInt := congrArg _ (g7.at (a := 3) (k := 3) (by decide))
      refine ⟨rfl, ?_⟩
      have w11 : WT (uL m3 150 ((2 : Int32).toNatClampNeg) x4.toInt64) := w_m3.l
      have f11 : Fx (RS [2, 9, 12, 14]) m0 (uL m3 150 ((2 : Int32).toNatClampNeg) x4.toInt64) := f_m3.l rfl
      have w12 : WT (uL (uL m3 150 ((2 : Int32).toNatClampNeg) x4.toInt64) 150 ((3 : Int32).toNatClampNeg) x5.toInt64) := w11.l
      have f12 : Fx (RS [2, 9, 12, 14]) m0 (uL (uL m3 150 ((2 : Int32).toNatClampNeg) x4.toInt64) 150 ((3 : Int32).toNatClampNeg) x5.toInt64) := f11.l rfl
      have w13 : WT (uI (uL (uL m3 150 ((2 : Int32).toNatClampNeg) x4.toInt64) 150 ((3 : Int32).toNatClampNeg) x5.toInt64) 0 18 (4 : Int32)) := w12.t rfl (by show (0 : Int) ≤ (4 : Int); omega) (by show (4 : Int) ≤ 10; omega)
      have f13 : Fx (RS [2, 9, 12, 14]) m0 (uI (uL (uL m3 150 ((2 : Int32).toNatClampNeg) x4.toInt64) 150 ((3 : Int32).toNatClampNeg) x5.toInt64) 0 18 (4 : Int32)) := f12.i rfl
      exact ⟨w13, f13, _, rfl, (by show ((0 : Int) = -1 ∧ (4 : Int) = (m0.1 0 18).toInt) ∨ (0 ≤ (0 : Int) ∧ (4 : Int) = 4); omega)⟩
    · intro c14
      have t15 := t_shl1 (x := x1) (by omega) (by omega)
      have k16 := z_nle c14
      obtain ⟨r4, e17, q18⟩ := w.r09
      refine ⟨r4, e17, Pl_of q18, ?_⟩
      refine (s_X7_follow w q18 (by show (0 : Int) ≤ (x1).toInt; omega) (by show (x1).toInt ≤ (6 : Int); omega)).to ?_
      rintro _ m5 ⟨w_m5, g19, w6, rfl⟩
      have f_m5 : Fx (RS [2, 9, 12, 14]) m0 m5 := f.tr g19 (RS_sub rfl)
      have e20 : (m5.1 0 18).toInt = ((m.1 0 18)).toInt := congrArg _ (g19.at (a := 0) (k := 18) (by decide))
      have e21 : (m5.1 3 3).toInt = ((m.1 3 3)).toInt := congrArg _ (g19.at (a := 3) (k := 3) (by decide))
      refine ⟨w6, rfl, ?_⟩
      refine ⟨?_, ?_⟩
      · intro c22
        have t23 := ti_addc (x := x6) (y := (1 : Int32)) (c := 1) rfl (by omega)
        exact ih _ _ _ _ _ _ w_m5 f_m5 (by show (1 : Int) ≤ (x1).toInt; omega) (by show (x1).toInt ≤ (6 : Int); omega) (by show (0 : Int) ≤ ((x6 + (1 : Int32))).toInt; omega) (by show ((x6 + (1 : Int32))).toInt ≤ (64 : Int); omega) (by show 64 - ((x6 + (1 : Int32))).toInt < _; omega)
      · intro c24
        refine (s_X1_total w_m5 SS_167).to ?_
        rintro _ m7 ⟨w_m7, g25, v8, rfl⟩
        have f_m7 : Fx (RS [2, 9, 12, 14]) m0 m7 := f_m5.tr g25 (RS_sub rfl)
        have e26 : (m7.1 0 18).toInt = ((m5.1 0 18)).toInt := congrArg _ (g25.at (a := 0) (k := 18) (by decide))
        have e27 : (m7.1 3 3).toInt = ((m5.1 3 3)).toInt := congrArg _ (g25.at (a := 3) (k := 3) (by decide))
        refine ⟨v8, rfl, ?_⟩
        have t28 := ti_addc (x := x6) (y := (1 : Int32)) (c := 1) rfl (by omega)
        exact ih _ _ _ _ _ _ w_m7 f_m7 (by show (1 : Int) ≤ (x1).toInt; omega) (by show (x1).toInt ≤ (6 : Int); omega) (by show (0 : Int) ≤ ((x6 + (1 : Int32))).toInt; omega) (by show ((x6 + (1 : Int32))).toInt ≤ (64 : Int); omega) (by show 64 - ((x6 + (1 : Int32))).toInt < _; omega)
set_option maxHeartbeats 4000000 in
theorem n_X11_hopes {ad : Nat → Nat} {d : Nat} {m : Wm} {x1 : Int32} (w : WT m) : Ct ad μX11_hopes (d + 7) [.ref (ad 0), .int x1] m (fun r m' => WT m' ∧ Fx (RS [2, 9, 12, 14]) m m' ∧ ∃ v : Int32, r = some (.int v) ∧ ((v.toInt = -1 ∧ (m'.1 0 18).toInt = (m.1 0 18).toInt) ∨ (0 ≤ v.toInt ∧ (m'.1 0 18).toInt = 4))) := by
  have f : Fx (RS [2, 9, 12, 14]) m m := Fx.rf
  refine v_X11_hopes  ?_
  refine ⟨?_, ?_⟩
  · intro c1
    have k2 := y_ltr (n := 1) rfl c1
    have r3 := w.at (a := 0) (k := 18) rfl
    exact ⟨w, f, _, rfl, (by show ((-1 : Int) = -1 ∧ ((m.1 0 18)).toInt = (m.1 0 18).toInt) ∨ (0 ≤ (-1 : Int) ∧ ((m.1 0 18)).toInt = 4); omega)⟩
  · intro c4
    have k5 := y_nltr (n := 1) rfl c4
    refine ⟨?_, ?_⟩
    · intro c6
      have k7 := y_ltl (n := 6) rfl c6
      have r8 := w.at (a := 0) (k := 18) rfl
      exact ⟨w, f, _, rfl, (by show ((-1 : Int) = -1 ∧ ((m.1 0 18)).toInt = (m.1 0 18).toInt) ∨ (0 ≤ (-1 : Int) ∧ ((m.1 0 18)).toInt = 4); omega)⟩
    · intro c9
      have k10 := y_nltl (n := 6) rfl c9
      obtain ⟨r1, e11, q12⟩ := w.r09
      refine ⟨r1, e11, Pl_of q12, ?_⟩
      refine ⟨?_, ?_⟩
      · intro c13
        have r14 := w.pl (k := 5) q12 rfl rfl
        have k15 := y_ner (n := 0) rfl c13
        exact (nl_X11_hopes (m0 := m) 1000000) _ _ _ _ _ _ w f (by show (1 : Int) ≤ (x1).toInt; omega) (by show (x1).toInt ≤ (6 : Int); omega) (by show (0 : Int) ≤ (0 : Int); omega) (by show (0 : Int) ≤ (64 : Int); omega) (by show 64 - (0 : Int) < _; omega)
      · intro c16
        have r17 := w.pl (k := 5) q12 rfl rfl
        have k18 := y_eqr (n := 0) rfl c16
        have r19 := w.at (a := 0) (k := 18) rfl
        exact ⟨w, f, _, rfl, (by show ((-1 : Int) = -1 ∧ ((m.1 0 18)).toInt = (m.1 0 18).toInt) ∨ (0 ≤ (-1 : Int) ∧ ((m.1 0 18)).toInt = 4); omega)⟩
set_option maxHeartbeats 4000000 in
theorem n_X11_top {ad : Nat → Nat} {d : Nat} {m : Wm} {x1 x2 x3 : Int32} (w : WT m) : Ct ad μX11_top (d + 7) [.ref (ad 0), .int x1, .int x2, .int x3] m (fun r m' => WT m' ∧ Fx (RS [2, 9, 10, 11, 14, 58]) m m' ∧ ∃ v : Int32, r = some (.int v) ∧ ((v.toInt < 0 ∧ (m'.1 0 18).toInt = (m.1 0 18).toInt) ∨ (0 ≤ v.toInt ∧ ((v.toInt ≤ 10 ∧ (m'.1 0 18).toInt = v.toInt) ∨ (10 < v.toInt ∧ (m'.1 0 18).toInt = 10))))) := by
  have f : Fx (RS [2, 9, 10, 11, 14, 58]) m m := Fx.rf
  refine v_X11_top  ?_
  refine (s_X1_has w).to ?_
  rintro _ m1 ⟨w_m1, g1, v2, rfl, p3, p4, p2⟩
  have f_m1 : Fx (RS [2, 9, 10, 11, 14, 58]) m m1 := f.tr g1 (RS_sub rfl)
  have p5 : (v2.toInt = 0 ∧ ((x1).toInt < 0 ∨ ((m.1 3 3)).toInt ≤ (x1).toInt)) ∨ (v2.toInt = 1 ∧ 0 ≤ (x1).toInt ∧ (x1).toInt < ((m.1 3 3)).toInt ∧ (x1).toInt ≤ 7) := p2
  clear p2
  have e6 : (m1.1 0 18).toInt = ((m.1 0 18)).toInt := congrArg _ (g1.at (a := 0) (k := 18) (by decide))
  have e7 : (m1.1 3 3).toInt = ((m.1 3 3)).toInt := congrArg _ (g1.at (a := 3) (k := 3) (by decide))
  refine ⟨v2, rfl, ?_⟩
  refine ⟨?_, ?_⟩
  · intro c8
    have k9 := y_eqr (n := 0) rfl c8
    have r10 := w_m1.at (a := 0) (k := 18) rfl
    exact ⟨w_m1, f_m1, _, rfl, (by show ((-1 : Int) < 0 ∧ ((m1.1 0 18)).toInt = (m.1 0 18).toInt) ∨ (0 ≤ (-1 : Int) ∧ (((-1 : Int) ≤ 10 ∧ ((m1.1 0 18)).toInt = (-1 : Int)) ∨ (10 < (-1 : Int) ∧ ((m1.1 0 18)).toInt = 10))); omega)⟩
  · intro c11
    have k12 := y_ner (n := 0) rfl c11
    refine (s_X1_knows w_m1).to ?_
    rintro _ m3 ⟨w_m3, g13, v4, rfl, p14, p15⟩
    have f_m3 : Fx (RS [2, 9, 10, 11, 14, 58]) m m3 := f_m1.tr g13 (RS_sub rfl)
    have e16 : (m3.1 0 18).toInt = ((m1.1 0 18)).toInt := congrArg _ (g13.at (a := 0) (k := 18) (by decide))
    have e17 : (m3.1 3 3).toInt = ((m1.1 3 3)).toInt := congrArg _ (g13.at (a := 3) (k := 3) (by decide))
    refine ⟨v4, rfl, ?_⟩
    refine ⟨?_, ?_⟩
    · intro c18
      have k19 := y_eqr (n := 0) rfl c18
      have r20 := w_m3.at (a := 0) (k := 18) rfl
      exact ⟨w_m3, f_m3, _, rfl, (by show ((-1 : Int) < 0 ∧ ((m3.1 0 18)).toInt = (m.1 0 18).toInt) ∨ (0 ≤ (-1 : Int) ∧ (((-1 : Int) ≤ 10 ∧ ((m3.1 0 18)).toInt = (-1 : Int)) ∨ (10 < (-1 : Int) ∧ ((m3.1 0 18)).toInt = 10))); omega)⟩
    · intro c21
      have k22 := y_ner (n := 0) rfl c21
      refine ⟨?_, ?_⟩
      · intro c23
        have k24 := y_ltr (n := 0) rfl c23
        have r25 := w_m3.at (a := 0) (k := 18) rfl
        exact ⟨w_m3, f_m3, _, rfl, (by show ((-1 : Int) < 0 ∧ ((m3.1 0 18)).toInt = (m.1 0 18).toInt) ∨ (0 ≤ (-1 : Int) ∧ (((-1 : Int) ≤ 10 ∧ ((m3.1 0 18)).toInt = (-1 : Int)) ∨ (10 < (-1 : Int) ∧ ((m3.1 0 18)).toInt = 10))); omega)⟩
      · intro c26
        have k27 := y_nltr (n := 0) rfl c26
        refine ⟨?_, ?_⟩
        · intro c28
          have k29 := y_ler (n := 7) rfl c28
          refine (s_X6_explore w_m3).to ?_
          rintro _ m5 ⟨w_m5, g30, v6, rfl, p31, p32⟩
          have f_m5 : Fx (RS [2, 9, 10, 11, 14, 58]) m m5 := f_m3.tr g30 (RS_sub rfl)
          have e33 : (m5.1 0 18).toInt = ((m3.1 0 18)).toInt := congrArg _ (g30.at (a := 0) (k := 18) (by decide))
          have e34 : (m5.1 3 3).toInt = ((m3.1 3 3)).toInt := congrArg _ (g30.at (a := 3) (k := 3) (by decide))
          refine ⟨v6, rfl, ?_⟩
          refine ⟨?_, ?_⟩
          · intro c35
            have k36 := y_ner (n := 0) rfl c35
            refine (s_X9_firstWith w_m5).to ?_
            rintro _ m7 ⟨w_m7, g37, v8, rfl, p38, p39⟩
            have f_m7 : Fx (RS [2, 9, 10, 11, 14, 58]) m m7 := f_m5.tr g37 (RS_sub rfl)
            have e40 : (m7.1 0 18).toInt = ((m5.1 0 18)).toInt := congrArg _ (g37.at (a := 0) (k := 18) (by decide))
            have e41 : (m7.1 3 3).toInt = ((m5.1 3 3)).toInt := congrArg _ (g37.at (a := 3) (k := 3) (by decide))
            refine ⟨v8, rfl, ?_⟩
            refine (n_X11_tellWayTo w_m7 (by show (-1 : Int) ≤ (v8).toInt; omega) (by show (v8).toInt ≤ (2999 : Int); omega)).to ?_
            rintro _ m9 ⟨w_m9, g42, v10, rfl, p43⟩
            have f_m9 : Fx (RS [2, 9, 10, 11, 14, 58]) m m9 := f_m7.tr g42 (RS_sub rfl)
            have p44 : (v10.toInt < 0 ∧ (m9.1 0 18).toInt = ((m7.1 0 18)).toInt) ∨ (0 ≤ v10.toInt ∧ ((v10.toInt ≤ 10 ∧ (m9.1 0 18).toInt = v10.toInt) ∨ (10 < v10.toInt ∧ (m9.1 0 18).toInt = 10))) := p43
            clear p43
            have e45 : (m9.1 3 3).toInt = ((m7.1 3 3)).toInt := congrArg _ (g42.at (a := 3) (k := 3) (by decide))
            refine ⟨v10, rfl, ?_⟩
            have r46 := w_m9.at (a := 0) (k := 18) rfl
            exact ⟨w_m9, f_m9, _, rfl, (by show ((v10).toInt < 0 ∧ ((m9.1 0 18)).toInt = (m.1 0 18).toInt) ∨ (0 ≤ (v10).toInt ∧ (((v10).toInt ≤ 10 ∧ ((m9.1 0 18)).toInt = (v10).toInt) ∨ (10 < (v10).toInt ∧ ((m9.1 0 18)).toInt = 10))); omega)⟩
          · intro c47
            have k48 := y_eqr (n := 0) rfl c47
            have r49 := w_m5.at (a := 0) (k := 18) rfl
            exact ⟨w_m5, f_m5, _, rfl, (by show ((-3 : Int) < 0 ∧ ((m5.1 0 18)).toInt = (m.1 0 18).toInt) ∨ (0 ≤ (-3 : Int) ∧ (((-3 : Int) ≤ 10 ∧ ((m5.1 0 18)).toInt = (-3 : Int)) ∨ (10 < (-3 : Int) ∧ ((m5.1 0 18)).toInt = 10))); omega)⟩
        · intro c50
          have k51 := y_nler (n := 7) rfl c50
          have r52 := w_m3.at (a := 0) (k := 18) rfl
          exact ⟨w_m3, f_m3, _, rfl, (by show ((-1 : Int) < 0 ∧ ((m3.1 0 18)).toInt = (m.1 0 18).toInt) ∨ (0 ≤ (-1 : Int) ∧ (((-1 : Int) ≤ 10 ∧ ((m3.1 0 18)).toInt = (-1 : Int)) ∨ (10 < (-1 : Int) ∧ ((m3.1 0 18)).toInt = 10))); omega)⟩
set_option maxHeartbeats 4000000 in
theorem n_X11_quick {ad : Nat → Nat} {d : Nat} {m : Wm} {x1 : Int32} (w : WT m) : Ct ad μX11_quick (d + 7) [.ref (ad 0), .int x1] m (fun r m' => WT m' ∧ Fx (RS [2, 9, 10, 11, 14, 58]) m m' ∧ ∃ v : Int32, r = some (.int v) ∧ ((v.toInt < 0 ∧ (m'.1 0 18).toInt = (m.1 0 18).toInt) ∨ (0 ≤ v.toInt ∧ ((v.toInt ≤ 10 ∧ (m'.1 0 18).toInt = v.toInt) ∨ (10 < v.toInt ∧ (m'.1 0 18).toInt = 10))))) := by
  have f : Fx (RS [2, 9, 10, 11, 14, 58]) m m := Fx.rf
  refine v_X11_quick  ?_
  refine (s_X6_explore w).to ?_
  rintro _ m1 ⟨w_m1, g1, v2, rfl, p2, p3⟩
  have f_m1 : Fx (RS [2, 9, 10, 11, 14, 58]) m m1 := f.tr g1 (RS_sub rfl)
  have e4 : (m1.1 0 18).toInt = ((m.1 0 18)).toInt := congrArg _ (g1.at (a := 0) (k := 18) (by decide))
  have e5 : (m1.1 3 3).toInt = ((m.1 3 3)).toInt := congrArg _ (g1.at (a := 3) (k := 3) (by decide))
  refine ⟨v2, rfl, ?_⟩
  refine ⟨?_, ?_⟩
  · intro c6
    have k7 := y_ner (n := 0) rfl c6
    refine (s_X6_firstStrong w_m1).to ?_
    rintro _ m3 ⟨w_m3, g8, v4, rfl, p9, p10⟩
    have f_m3 : Fx (RS [2, 9, 10, 11, 14, 58]) m m3 := f_m1.tr g8 (RS_sub rfl)
    have e11 : (m3.1 0 18).toInt = ((m1.1 0 18)).toInt := congrArg _ (g8.at (a := 0) (k := 18) (by decide))
    have e12 : (m3.1 3 3).toInt = ((m1.1 3 3)).toInt := congrArg _ (g8.at (a := 3) (k := 3) (by decide))
    refine ⟨v4, rfl, ?_⟩
    refine (n_X11_tellWayTo w_m3 (by show (-1 : Int) ≤ (v4).toInt; omega) (by show (v4).toInt ≤ (2999 : Int); omega)).to ?_
    rintro _ m5 ⟨w_m5, g13, v6, rfl, p14⟩
    have f_m5 : Fx (RS [2, 9, 10, 11, 14, 58]) m m5 := f_m3.tr g13 (RS_sub rfl)
    have p15 : (v6.toInt < 0 ∧ (m5.1 0 18).toInt = ((m3.1 0 18)).toInt) ∨ (0 ≤ v6.toInt ∧ ((v6.toInt ≤ 10 ∧ (m5.1 0 18).toInt = v6.toInt) ∨ (10 < v6.toInt ∧ (m5.1 0 18).toInt = 10))) := p14
    clear p14
    have e16 : (m5.1 3 3).toInt = ((m3.1 3 3)).toInt := congrArg _ (g13.at (a := 3) (k := 3) (by decide))
    refine ⟨v6, rfl, ?_⟩
    have r17 := w_m5.at (a := 0) (k := 18) rfl
    exact ⟨w_m5, f_m5, _, rfl, (by show ((v6).toInt < 0 ∧ ((m5.1 0 18)).toInt = (m.1 0 18).toInt) ∨ (0 ≤ (v6).toInt ∧ (((v6).toInt ≤ 10 ∧ ((m5.1 0 18)).toInt = (v6).toInt) ∨ (10 < (v6).toInt ∧ ((m5.1 0 18)).toInt = 10))); omega)⟩
  · intro c18
    have k19 := y_eqr (n := 0) rfl c18
    have r20 := w_m1.at (a := 0) (k := 18) rfl
    exact ⟨w_m1, f_m1, _, rfl, (by show ((-3 : Int) < 0 ∧ ((m1.1 0 18)).toInt = (m.1 0 18).toInt) ∨ (0 ≤ (-3 : Int) ∧ (((-3 : Int) ≤ 10 ∧ ((m1.1 0 18)).toInt = (-3 : Int)) ∨ (10 < (-3 : Int) ∧ ((m1.1 0 18)).toInt = 10))); omega)⟩
set_option maxHeartbeats 4000000 in
theorem nl_X11_all {ad : Nat → Nat} {d : Nat} {m0 : Wm}  : ∀ n : Nat, (∀ (m : Wm) (x1 x2 x3 x4 : Int32), WT m → Fx (RS [2, 9, 10, 11, 14, 58]) m0 m → (0 : Int) ≤ x4.toInt → x4.toInt ≤ (3000 : Int) → 3000 - x4.toInt < (n : Int) → AW ad E0 μX11_all (d + 7) (fun r m' => WT m' ∧ Fx (RS [2, 9, 10, 11, 14, 58]) m0 m' ∧ ∃ v : Int32, r = some (.int v) ∧ ((v.toInt = -3 ∧ (m'.1 0 18).toInt = (m0.1 0 18).toInt) ∨ (0 ≤ v.toInt ∧ (m'.1 0 18).toInt = 3))) 35 [(0, .ref (ad 0)), (1, .int x1), (2, .int x2), (3, .int x3), (4, .int x4)] [] m) := by
  intro n
  induction n with
  | zero =>
    intros
    exfalso
    omega
  | succ n ih =>
    intro m x1 x2 x3 x4 w f j1 j2 hn
    refine g_X11_all_35  ?_
    refine ⟨?_, ?_⟩
    · intro c1
      have r2 := w.at (a := 151) (k := 4) rfl
      have k3 := z_le c1
      refine (n_X11_tell__ w).to ?_
      rintro _ m1 ⟨w_m1, g4, rfl, p5⟩
      have f_m1 : Fx (RS [2, 9, 10, 11, 14, 58]) m0 m1 := f.tr g4 (RS_sub rfl)
      have p6 : (m1.1 0 18).toInt = 3 := p5
      clear p5
      have e7 : (m1.1 3 3).toInt = ((m.1 3 3)).toInt := congrArg _ (g4.at (a := 3) (k := 3) (by decide))
      refine ⟨rfl, ?_⟩
      have r8 := w_m1.at (a := 151) (k := 4) rfl
      have r9 := w_m1.at (a := 0) (k := 18) rfl
      exact ⟨w_m1, f_m1, _, rfl, (by show (((m1.1 151 4)).toInt = -3 ∧ ((m1.1 0 18)).toInt = (m0.1 0 18).toInt) ∨ (0 ≤ ((m1.1 151 4)).toInt ∧ ((m1.1 0 18)).toInt = 3); omega)⟩
    · intro c10
      have r11 := w.at (a := 151) (k := 4) rfl
      have k12 := z_nle c10
      refine (s_X9_total w (by show (0 : Int) ≤ (x4).toInt; omega) (by show (x4).toInt ≤ (2999 : Int); omega)).to ?_
      rintro _ m2 ⟨w_m2, g13, v3, rfl⟩
      have f_m2 : Fx (RS [2, 9, 10, 11, 14, 58]) m0 m2 := f.tr g13 (RS_sub rfl)
      have e14 : (m2.1 0 18).toInt = ((m.1 0 18)).toInt := congrArg _ (g13.at (a := 0) (k := 18) (by decide))
      have e15 : (m2.1 3 3).toInt = ((m.1 3 3)).toInt := congrArg _ (g13.at (a := 3) (k := 3) (by decide))
      refine ⟨v3, rfl, ?_⟩
      refine ⟨?_, ?_⟩
      · exact vpi (by omega) (by omega)
      · have t16 := ti_addc (x := x4) (y := (1 : Int32)) (c := 1) rfl (by omega)
        exact ih _ _ _ _ _ w_m2 f_m2 (by show (0 : Int) ≤ ((x4 + (1 : Int32))).toInt; omega) (by show ((x4 + (1 : Int32))).toInt ≤ (3000 : Int); omega) (by show 3000 - ((x4 + (1 : Int32))).toInt < _; omega)
set_option maxHeartbeats 4000000 in
theorem n_X11_all {ad : Nat → Nat} {d : Nat} {m : Wm} (w : WT m) : Ct ad μX11_all (d + 7) [.ref (ad 0)] m (fun r m' => WT m' ∧ Fx (RS [2, 9, 10, 11, 14, 58]) m m' ∧ ∃ v : Int32, r = some (.int v) ∧ ((v.toInt = -3 ∧ (m'.1 0 18).toInt = (m.1 0 18).toInt) ∨ (0 ≤ v.toInt ∧ (m'.1 0 18).toInt = 3))) := by
  have f : Fx (RS [2, 9, 10, 11, 14, 58]) m m := Fx.rf
  refine v_X11_all  ?_
  refine (s_X6_explore w).to ?_
  rintro _ m1 ⟨w_m1, g1, v2, rfl, p2, p3⟩
  have f_m1 : Fx (RS [2, 9, 10, 11, 14, 58]) m m1 := f.tr g1 (RS_sub rfl)
  have e4 : (m1.1 0 18).toInt = ((m.1 0 18)).toInt := congrArg _ (g1.at (a := 0) (k := 18) (by decide))
  have e5 : (m1.1 3 3).toInt = ((m.1 3 3)).toInt := congrArg _ (g1.at (a := 3) (k := 3) (by decide))
  refine ⟨v2, rfl, ?_⟩
  refine ⟨?_, ?_⟩
  · intro c6
    have k7 := y_ner (n := 0) rfl c6
    exact (nl_X11_all (m0 := m) 1000000) _ _ _ _ _ w_m1 f_m1 (by show (0 : Int) ≤ (0 : Int); omega) (by show (0 : Int) ≤ (3000 : Int); omega) (by show 3000 - (0 : Int) < _; omega)
  · intro c8
    have k9 := y_eqr (n := 0) rfl c8
    have r10 := w_m1.at (a := 0) (k := 18) rfl
    exact ⟨w_m1, f_m1, _, rfl, (by show ((-3 : Int) = -3 ∧ ((m1.1 0 18)).toInt = (m.1 0 18).toInt) ∨ (0 ≤ (-3 : Int) ∧ ((m1.1 0 18)).toInt = 3); omega)⟩
set_option maxHeartbeats 4000000 in
theorem nl_X11_next {ad : Nat → Nat} {d : Nat} {m0 : Wm}  : ∀ n : Nat, (∀ (m : Wm) (x1 x2 x3 x4 : Int32), WT m → Fx (RS [2, 5, 9, 14]) m0 m → (0 : Int) ≤ x1.toInt → x1.toInt ≤ (7 : Int) → (0 : Int) ≤ x4.toInt → x4.toInt ≤ (3 : Int) → (x1.toInt < (m0.1 3 3).toInt) → (2 ≤ (m0.1 3 3).toInt) → (3 - x4.toInt) * 1000 + 900 < (n : Int) → AW ad E0 μX11_next (d + 6) (fun r m' => WT m' ∧ Fx (RS [2, 5, 9, 14]) m0 m' ∧ ∃ v : Int32, r = some (.int v) ∧ (((x1.toInt < 0 ∨ (m0.1 3 3).toInt ≤ x1.toInt ∨ (m0.1 3 3).toInt < 2) ∧ (m'.1 0 18).toInt = (m0.1 0 18).toInt) ∨ (0 ≤ x1.toInt ∧ x1.toInt < (m0.1 3 3).toInt ∧ 2 ≤ (m0.1 3 3).toInt ∧ (m'.1 0 18).toInt = 1))) 45 [(0, .ref (ad 0)), (1, .int x1), (2, .int x2), (3, .int x3), (4, .int x4)] [] m) ∧ (∀ (m : Wm) (x1 x2 x3 x4 x5 : Int32), WT m → Fx (RS [2, 5, 9, 14]) m0 m → (0 : Int) ≤ x1.toInt → x1.toInt ≤ (7 : Int) → (0 : Int) ≤ x4.toInt → x4.toInt ≤ (2 : Int) → (0 : Int) ≤ x5.toInt → x5.toInt ≤ (8 : Int) → (x1.toInt < (m0.1 3 3).toInt) → (2 ≤ (m0.1 3 3).toInt) → (3 - x4.toInt) * 1000 + (8 - x5.toInt) * 40 + 35 < (n : Int) → AW ad E0 μX11_next (d + 6) (fun r m' => WT m' ∧ Fx (RS [2, 5, 9, 14]) m0 m' ∧ ∃ v : Int32, r = some (.int v) ∧ (((x1.toInt < 0 ∨ (m0.1 3 3).toInt ≤ x1.toInt ∨ (m0.1 3 3).toInt < 2) ∧ (m'.1 0 18).toInt = (m0.1 0 18).toInt) ∨ (0 ≤ x1.toInt ∧ x1.toInt < (m0.1 3 3).toInt ∧ 2 ≤ (m0.1 3 3).toInt ∧ (m'.1 0 18).toInt = 1))) 54 [(0, .ref (ad 0)), (1, .int x1), (2, .int x2), (3, .int x3), (4, .int x4), (5, .int x5)] [] m) ∧ (∀ (m : Wm) (x1 x2 x3 x4 x5 x6 : Int32), WT m → Fx (RS [2, 5, 9, 14]) m0 m → (0 : Int) ≤ x1.toInt → x1.toInt ≤ (7 : Int) → (0 : Int) ≤ x4.toInt → x4.toInt ≤ (2 : Int) → (0 : Int) ≤ x5.toInt → x5.toInt ≤ (7 : Int) → (0 : Int) ≤ x6.toInt → x6.toInt ≤ (8 : Int) → (x1.toInt < (m0.1 3 3).toInt) → (2 ≤ (m0.1 3 3).toInt) → (3 - x4.toInt) * 1000 + (8 - x5.toInt) * 40 + (8 - x6.toInt) * 2 + 1 < (n : Int) → AW ad E0 μX11_next (d + 6) (fun r m' => WT m' ∧ Fx (RS [2, 5, 9, 14]) m0 m' ∧ ∃ v : Int32, r = some (.int v) ∧ (((x1.toInt < 0 ∨ (m0.1 3 3).toInt ≤ x1.toInt ∨ (m0.1 3 3).toInt < 2) ∧ (m'.1 0 18).toInt = (m0.1 0 18).toInt) ∨ (0 ≤ x1.toInt ∧ x1.toInt < (m0.1 3 3).toInt ∧ 2 ≤ (m0.1 3 3).toInt ∧ (m'.1 0 18).toInt = 1))) 72 [(0, .ref (ad 0)), (1, .int x1), (2, .int x2), (3, .int x3), (4, .int x4), (5, .int x5), (6, .int x6)] [] m) ∧ (∀ (m : Wm) (x1 x4 x5 x6 x7 : Int32), WT m → Fx (RS [2, 5, 9, 14]) m0 m → (0 : Int) ≤ x1.toInt → x1.toInt ≤ (7 : Int) → (0 : Int) ≤ x4.toInt → x4.toInt ≤ (2 : Int) → (0 : Int) ≤ x5.toInt → x5.toInt ≤ (7 : Int) → (0 : Int) ≤ x6.toInt → x6.toInt ≤ (7 : Int) → (x1.toInt < (m0.1 3 3).toInt) → (2 ≤ (m0.1 3 3).toInt) → (3 - x4.toInt) * 1000 + (8 - x5.toInt) * 40 + (8 - x6.toInt) * 2 < (n : Int) → AW ad E0 μX11_next (d + 6) (fun r m' => WT m' ∧ Fx (RS [2, 5, 9, 14]) m0 m' ∧ ∃ v : Int32, r = some (.int v) ∧ (((x1.toInt < 0 ∨ (m0.1 3 3).toInt ≤ x1.toInt ∨ (m0.1 3 3).toInt < 2) ∧ (m'.1 0 18).toInt = (m0.1 0 18).toInt) ∨ (0 ≤ x1.toInt ∧ x1.toInt < (m0.1 3 3).toInt ∧ 2 ≤ (m0.1 3 3).toInt ∧ (m'.1 0 18).toInt = 1))) 108 [(0, .ref (ad 0)), (1, .int x1), (4, .int x4), (5, .int x5), (6, .int x6), (7, .int x7)] [] m) := by
  intro n
  induction n with
  | zero =>
    refine ⟨?_, ?_, ?_, ?_⟩ <;> intros <;> exfalso <;> omega
  | succ n ih =>
    refine ⟨?_, ?_, ?_, ?_⟩
    · intro m x1 x2 x3 x4 w f j1 j2 j3 j4 j5 j6 hn
      refine g_X11_next_45  ?_
      refine ⟨?_, ?_⟩
      · intro c1
        have k2 := y_lel (n := 3) rfl c1
        refine (n_X11_tell w).to ?_
        rintro _ m1 ⟨w_m1, g3, rfl, p4⟩
        have f_m1 : Fx (RS [2, 5, 9, 14]) m0 m1 := f.tr g3 (RS_sub rfl)
        have p5 : (m1.1 0 18).toInt = 1 := p4
        clear p4
        have e6 : (m1.1 3 3).toInt = ((m.1 3 3)).toInt := congrArg _ (g3.at (a := 3) (k := 3) (by decide))
        refine ⟨rfl, ?_⟩
        have r7 := w_m1.at (a := 0) (k := 18) rfl
        exact ⟨w_m1, f_m1, _, rfl, (by show ((x1.toInt < 0 ∨ (m0.1 3 3).toInt ≤ x1.toInt ∨ (m0.1 3 3).toInt < 2) ∧ ((m1.1 0 18)).toInt = (m0.1 0 18).toInt) ∨ (0 ≤ x1.toInt ∧ x1.toInt < (m0.1 3 3).toInt ∧ 2 ≤ (m0.1 3 3).toInt ∧ ((m1.1 0 18)).toInt = 1); omega)⟩
      · intro c8
        have k9 := y_nlel (n := 3) rfl c8
        exact ih.2.1 _ _ _ _ _ _ w f (by show (0 : Int) ≤ (x1).toInt; omega) (by show (x1).toInt ≤ (7 : Int); omega) (by show (0 : Int) ≤ (x4).toInt; omega) (by show (x4).toInt ≤ (2 : Int); omega) (by show (0 : Int) ≤ (0 : Int); omega) (by show (0 : Int) ≤ (8 : Int); omega) (by show (x1).toInt < (m0.1 3 3).toInt; omega) (by show 2 ≤ (m0.1 3 3).toInt; omega) (by show (3 - (x4).toInt) * 1000 + (8 - (0 : Int)) * 40 + 35 < _; omega)
    · intro m x1 x2 x3 x4 x5 w f j1 j2 j3 j4 j5 j6 j7 j8 hn
      refine g_X11_next_54  ?_
      refine ⟨?_, ?_⟩
      · intro c1
        have r2 := w.at (a := 3) (k := 3) rfl
        have k3 := z_le c1
        have t4 := ti_addc (x := x4) (y := (1 : Int32)) (c := 1) rfl (by omega)
        exact ih.1 _ _ _ _ _ w f (by show (0 : Int) ≤ (x1).toInt; omega) (by show (x1).toInt ≤ (7 : Int); omega) (by show (0 : Int) ≤ ((x4 + (1 : Int32))).toInt; omega) (by show ((x4 + (1 : Int32))).toInt ≤ (3 : Int); omega) (by show (x1).toInt < (m0.1 3 3).toInt; omega) (by show 2 ≤ (m0.1 3 3).toInt; omega) (by show (3 - ((x4 + (1 : Int32))).toInt) * 1000 + 900 < _; omega)
      · intro c5
        have r6 := w.at (a := 3) (k := 3) rfl
        have k7 := z_nle c5
        have t8 := ti_addc (x := x5) (y := (1 : Int32)) (c := 1) rfl (by omega)
        exact ih.2.2.1 _ _ _ _ _ _ _ w f (by show (0 : Int) ≤ (x1).toInt; omega) (by show (x1).toInt ≤ (7 : Int); omega) (by show (0 : Int) ≤ (x4).toInt; omega) (by show (x4).toInt ≤ (2 : Int); omega) (by show (0 : Int) ≤ (x5).toInt; omega) (by show (x5).toInt ≤ (7 : Int); omega) (by show (0 : Int) ≤ ((x5 + (1 : Int32))).toInt; omega) (by show ((x5 + (1 : Int32))).toInt ≤ (8 : Int); omega) (by show (x1).toInt < (m0.1 3 3).toInt; omega) (by show 2 ≤ (m0.1 3 3).toInt; omega) (by show (3 - (x4).toInt) * 1000 + (8 - (x5).toInt) * 40 + (8 - ((x5 + (1 : Int32))).toInt) * 2 + 1 < _; omega)
    · intro m x1 x2 x3 x4 x5 x6 w f j1 j2 j3 j4 j5 j6 j7 j8 j9 j10 hn
      refine g_X11_next_72  ?_
      refine ⟨?_, ?_⟩
      · intro c1
        have r2 := w.at (a := 3) (k := 3) rfl
        have k3 := z_le c1
        have t4 := ti_addc (x := x5) (y := (1 : Int32)) (c := 1) rfl (by omega)
        exact ih.2.1 _ _ _ _ _ _ w f (by show (0 : Int) ≤ (x1).toInt; omega) (by show (x1).toInt ≤ (7 : Int); omega) (by show (0 : Int) ≤ (x4).toInt; omega) (by show (x4).toInt ≤ (2 : Int); omega) (by show (0 : Int) ≤ ((x5 + (1 : Int32))).toInt; omega) (by show ((x5 + (1 : Int32))).toInt ≤ (8 : Int); omega) (by show (x1).toInt < (m0.1 3 3).toInt; omega) (by show 2 ≤ (m0.1 3 3).toInt; omega) (by show (3 - (x4).toInt) * 1000 + (8 - ((x5 + (1 : Int32))).toInt) * 40 + 35 < _; omega)
      · intro c5
        have r6 := w.at (a := 3) (k := 3) rfl
        have k7 := z_nle c5
        refine (s_X11_powerAfter w (by show (0 : Int) ≤ (x1).toInt; omega) (by show (x1).toInt ≤ (7 : Int); omega) (by show (0 : Int) ≤ (x5).toInt; omega) (by show (x5).toInt ≤ (7 : Int); omega) (by show (0 : Int) ≤ (x6).toInt; omega) (by show (x6).toInt ≤ (7 : Int); omega)).to ?_
        rintro _ m1 ⟨w_m1, g8, v2, rfl⟩
        have f_m1 : Fx (RS [2, 5, 9, 14]) m0 m1 := f.tr g8 (RS_sub rfl)
        have e9 : (m1.1 0 18).toInt = ((m.1 0 18)).toInt := congrArg _ (g8.at (a := 0) (k := 18) (by decide))
        have e10 : (m1.1 3 3).toInt = ((m.1 3 3)).toInt := congrArg _ (g8.at (a := 3) (k := 3) (by decide))
        refine ⟨v2, rfl, ?_⟩
        refine ⟨?_, ?_⟩
        · intro c11
          have k12 := y_eqr (n := -1) rfl c11
          exact ih.2.2.2 _ _ _ _ _ _ w_m1 f_m1 (by show (0 : Int) ≤ (x1).toInt; omega) (by show (x1).toInt ≤ (7 : Int); omega) (by show (0 : Int) ≤ (x4).toInt; omega) (by show (x4).toInt ≤ (2 : Int); omega) (by show (0 : Int) ≤ (x5).toInt; omega) (by show (x5).toInt ≤ (7 : Int); omega) (by show (0 : Int) ≤ (x6).toInt; omega) (by show (x6).toInt ≤ (7 : Int); omega) (by show (x1).toInt < (m0.1 3 3).toInt; omega) (by show 2 ≤ (m0.1 3 3).toInt; omega) (by show (3 - (x4).toInt) * 1000 + (8 - (x5).toInt) * 40 + (8 - (x6).toInt) * 2 < _; omega)
        · intro c13
          have k14 := y_ner (n := -1) rfl c13
          refine ⟨?_, ?_⟩
          · intro c15
            have k16 := z_le c15
            have t17 := ti_addc (x := x6) (y := (1 : Int32)) (c := 1) rfl (by omega)
            exact ih.2.2.1 _ _ _ _ _ _ _ w_m1 f_m1 (by show (0 : Int) ≤ (x1).toInt; omega) (by show (x1).toInt ≤ (7 : Int); omega) (by show (0 : Int) ≤ (x4).toInt; omega) (by show (x4).toInt ≤ (2 : Int); omega) (by show (0 : Int) ≤ (x5).toInt; omega) (by show (x5).toInt ≤ (7 : Int); omega) (by show (0 : Int) ≤ ((x6 + (1 : Int32))).toInt; omega) (by show ((x6 + (1 : Int32))).toInt ≤ (8 : Int); omega) (by show (x1).toInt < (m0.1 3 3).toInt; omega) (by show 2 ≤ (m0.1 3 3).toInt; omega) (by show (3 - (x4).toInt) * 1000 + (8 - (x5).toInt) * 40 + (8 - ((x6 + (1 : Int32))).toInt) * 2 + 1 < _; omega)
          · intro c18
            have k19 := z_nle c18
            exact ih.2.2.2 _ _ _ _ _ _ w_m1 f_m1 (by show (0 : Int) ≤ (x1).toInt; omega) (by show (x1).toInt ≤ (7 : Int); omega) (by show (0 : Int) ≤ (x4).toInt; omega) (by show (x4).toInt ≤ (2 : Int); omega) (by show (0 : Int) ≤ (x5).toInt; omega) (by show (x5).toInt ≤ (7 : Int); omega) (by show (0 : Int) ≤ (x6).toInt; omega) (by show (x6).toInt ≤ (7 : Int); omega) (by show (x1).toInt < (m0.1 3 3).toInt; omega) (by show 2 ≤ (m0.1 3 3).toInt; omega) (by show (3 - (x4).toInt) * 1000 + (8 - (x5).toInt) * 40 + (8 - (x6).toInt) * 2 < _; omega)
    · intro m x1 x4 x5 x6 x7 w f j1 j2 j3 j4 j5 j6 j7 j8 j9 j10 hn
      refine g_X11_next_108  ?_
      have t1 := ti_addc (x := x6) (y := (1 : Int32)) (c := 1) rfl (by omega)
      exact ih.2.2.1 _ _ _ _ _ _ _ w f (by show (0 : Int) ≤ (x1).toInt; omega) (by show (x1).toInt ≤ (7 : Int); omega) (by show (0 : Int) ≤ (x4).toInt; omega) (by show (x4).toInt ≤ (2 : Int); omega) (by show (0 : Int) ≤ (x5).toInt; omega) (by show (x5).toInt ≤ (7 : Int); omega) (by show (0 : Int) ≤ ((x6 + (1 : Int32))).toInt; omega) (by show ((x6 + (1 : Int32))).toInt ≤ (8 : Int); omega) (by show (x1).toInt < (m0.1 3 3).toInt; omega) (by show 2 ≤ (m0.1 3 3).toInt; omega) (by show (3 - (x4).toInt) * 1000 + (8 - (x5).toInt) * 40 + (8 - ((x6 + (1 : Int32))).toInt) * 2 + 1 < _; omega)
set_option maxHeartbeats 4000000 in
theorem n_X11_next {ad : Nat → Nat} {d : Nat} {m : Wm} {x1 : Int32} (w : WT m) : Ct ad μX11_next (d + 6) [.ref (ad 0), .int x1] m (fun r m' => WT m' ∧ Fx (RS [2, 5, 9, 14]) m m' ∧ ∃ v : Int32, r = some (.int v) ∧ (((x1.toInt < 0 ∨ (m.1 3 3).toInt ≤ x1.toInt ∨ (m.1 3 3).toInt < 2) ∧ (m'.1 0 18).toInt = (m.1 0 18).toInt) ∨ (0 ≤ x1.toInt ∧ x1.toInt < (m.1 3 3).toInt ∧ 2 ≤ (m.1 3 3).toInt ∧ (m'.1 0 18).toInt = 1))) := by
  have f : Fx (RS [2, 5, 9, 14]) m m := Fx.rf
  refine v_X11_next  ?_
  refine (s_X1_has w).to ?_
  rintro _ m1 ⟨w_m1, g1, v2, rfl, p3, p4, p2⟩
  have f_m1 : Fx (RS [2, 5, 9, 14]) m m1 := f.tr g1 (RS_sub rfl)
  have p5 : (v2.toInt = 0 ∧ ((x1).toInt < 0 ∨ ((m.1 3 3)).toInt ≤ (x1).toInt)) ∨ (v2.toInt = 1 ∧ 0 ≤ (x1).toInt ∧ (x1).toInt < ((m.1 3 3)).toInt ∧ (x1).toInt ≤ 7) := p2
  clear p2
  have e6 : (m1.1 0 18).toInt = ((m.1 0 18)).toInt := congrArg _ (g1.at (a := 0) (k := 18) (by decide))
  have e7 : (m1.1 3 3).toInt = ((m.1 3 3)).toInt := congrArg _ (g1.at (a := 3) (k := 3) (by decide))
  refine ⟨v2, rfl, ?_⟩
  refine ⟨?_, ?_⟩
  · intro c8
    have k9 := y_ner (n := 0) rfl c8
    refine ⟨?_, ?_⟩
    · intro c10
      have r11 := w_m1.at (a := 3) (k := 3) rfl
      have k12 := y_lel (n := 2) rfl c10
      refine (s_X8_copy w_m1 SS_26 SS_21).to ?_
      rintro _ m3 ⟨w_m3, g13, rfl⟩
      have f_m3 : Fx (RS [2, 5, 9, 14]) m m3 := f_m1.tr g13 (RS_sub rfl)
      have e14 : (m3.1 0 18).toInt = ((m1.1 0 18)).toInt := congrArg _ (g13.at (a := 0) (k := 18) (by decide))
      have e15 : (m3.1 3 3).toInt = ((m1.1 3 3)).toInt := congrArg _ (g13.at (a := 3) (k := 3) (by decide))
      refine ⟨rfl, ?_⟩
      exact (nl_X11_next (m0 := m) 1000000).1 _ _ _ _ _ w_m3 f_m3 (by show (0 : Int) ≤ (x1).toInt; omega) (by show (x1).toInt ≤ (7 : Int); omega) (by show (0 : Int) ≤ (0 : Int); omega) (by show (0 : Int) ≤ (3 : Int); omega) (by show (x1).toInt < (m.1 3 3).toInt; omega) (by show 2 ≤ (m.1 3 3).toInt; omega) (by show (3 - (0 : Int)) * 1000 + 900 < _; omega)
    · intro c16
      have r17 := w_m1.at (a := 3) (k := 3) rfl
      have k18 := y_nlel (n := 2) rfl c16
      have r19 := w_m1.at (a := 0) (k := 18) rfl
      exact ⟨w_m1, f_m1, _, rfl, (by show ((x1.toInt < 0 ∨ (m.1 3 3).toInt ≤ x1.toInt ∨ (m.1 3 3).toInt < 2) ∧ ((m1.1 0 18)).toInt = (m.1 0 18).toInt) ∨ (0 ≤ x1.toInt ∧ x1.toInt < (m.1 3 3).toInt ∧ 2 ≤ (m.1 3 3).toInt ∧ ((m1.1 0 18)).toInt = 1); omega)⟩
  · intro c20
    have k21 := y_eqr (n := 0) rfl c20
    have r22 := w_m1.at (a := 0) (k := 18) rfl
    exact ⟨w_m1, f_m1, _, rfl, (by show ((x1.toInt < 0 ∨ (m.1 3 3).toInt ≤ x1.toInt ∨ (m.1 3 3).toInt < 2) ∧ ((m1.1 0 18)).toInt = (m.1 0 18).toInt) ∨ (0 ≤ x1.toInt ∧ x1.toInt < (m.1 3 3).toInt ∧ 2 ≤ (m.1 3 3).toInt ∧ ((m1.1 0 18)).toInt = 1); omega)⟩
set_option maxHeartbeats 4000000 in
theorem nl_X11_found {ad : Nat → Nat} {d : Nat} {m0 : Wm}  : ∀ n : Nat, (∀ (m : Wm) (x1 : Int32), WT m → Fx (RS [9, 14]) m0 m → (0 : Int) ≤ x1.toInt → x1.toInt ≤ (8 : Int) → 1000 - x1.toInt < (n : Int) → AW ad E0 μX11_found (d + 5) (fun r m' => WT m' ∧ Fx (RS [9, 14]) m0 m' ∧ ∃ v : Int32, r = some (.int v) ∧ ((m'.1 0 18).toInt = 3)) 2 [(0, .ref (ad 0)), (1, .int x1)] [] m) ∧ (∀ (m : Wm) (x1 x2 : Int32), WT m → Fx (RS [9, 14]) m0 m → (0 : Int) ≤ x2.toInt → x2.toInt ≤ (12 : Int) → 500 - x2.toInt < (n : Int) → AW ad E0 μX11_found (d + 5) (fun r m' => WT m' ∧ Fx (RS [9, 14]) m0 m' ∧ ∃ v : Int32, r = some (.int v) ∧ ((m'.1 0 18).toInt = 3)) 25 [(0, .ref (ad 0)), (1, .int x1), (2, .int x2)] [] m) ∧ (∀ (m : Wm) (x1 x2 x3 : Int32), WT m → Fx (RS [9, 14]) m0 m → (0 : Int) ≤ x2.toInt → x2.toInt ≤ (7 : Int) → (0 : Int) ≤ x3.toInt → x3.toInt ≤ (8 : Int) → 100 - x3.toInt < (n : Int) → AW ad E0 μX11_found (d + 5) (fun r m' => WT m' ∧ Fx (RS [9, 14]) m0 m' ∧ ∃ v : Int32, r = some (.int v) ∧ ((m'.1 0 18).toInt = 3)) 87 [(0, .ref (ad 0)), (1, .int x1), (2, .int x2), (3, .int x3)] [] m) ∧ (∀ (m : Wm) (x1 x2 : Int32) (z0 z1 : Int64), WT m → Fx (RS [9, 14]) m0 m → (0 : Int) ≤ x2.toInt → x2.toInt ≤ (7 : Int) → 0 * x2.toInt < (n : Int) → AW ad E0 μX11_found (d + 5) (fun r m' => WT m' ∧ Fx (RS [9, 14]) m0 m' ∧ ∃ v : Int32, r = some (.int v) ∧ ((m'.1 0 18).toInt = 3)) 139 [(0, .ref (ad 0)), (1, .int x1), (2, .int x2)] [.long z0, .long z1, .ref (ad 0)] m) := by
  intro n
  induction n with
  | zero =>
    refine ⟨?_, ?_, ?_, ?_⟩ <;> intros <;> exfalso <;> omega
  | succ n ih =>
    refine ⟨?_, ?_, ?_, ?_⟩
    · intro m x1 w f j1 j2 hn
      refine g_X11_found_2  ?_
      refine ⟨?_, ?_⟩
      · intro c1
        have k2 := y_lel (n := 8) rfl c1
        exact ih.2.1 _ _ _ w f (by show (0 : Int) ≤ (0 : Int); omega) (by show (0 : Int) ≤ (12 : Int); omega) (by show 500 - (0 : Int) < _; omega)
      · intro c3
        have k4 := y_nlel (n := 8) rfl c3
        refine ⟨?_, ?_⟩
        · exact vpi (by omega) (by omega)
        · have w5 : WT (uI m 149 x1.toNatClampNeg (0 : Int32)) := w.n rfl
          have f5 : Fx (RS [9, 14]) m0 (uI m 149 x1.toNatClampNeg (0 : Int32)) := f.i rfl
          have t6 := ti_addc (x := x1) (y := (1 : Int32)) (c := 1) rfl (by omega)
          exact ih.1 _ _ w5 f5 (by show (0 : Int) ≤ ((x1 + (1 : Int32))).toInt; omega) (by show ((x1 + (1 : Int32))).toInt ≤ (8 : Int); omega) (by show 1000 - ((x1 + (1 : Int32))).toInt < _; omega)
    · intro m x1 x2 w f j1 j2 hn
      refine g_X11_found_25  ?_
      refine ⟨?_, ?_⟩
      · intro c1
        have r2 := w.at (a := 0) (k := 15) rfl
        have k3 := z_le c1
        exact ih.2.2.1 _ _ _ _ w f (by show (0 : Int) ≤ (0 : Int); omega) (by show (0 : Int) ≤ (7 : Int); omega) (by show (0 : Int) ≤ (0 : Int); omega) (by show (0 : Int) ≤ (8 : Int); omega) (by show 100 - (0 : Int) < _; omega)
      · intro c4
        have r5 := w.at (a := 0) (k := 15) rfl
        have k6 := z_nle c4
        refine ⟨?_, ?_⟩
        · exact vpi (by omega) (by omega)
        · refine ⟨?_, ?_⟩
          · exact vpi (by omega) (by omega)
          · have r7 := w.at (a := 146) (k := x2.toNatClampNeg) rfl
            have r8 := w.at (a := 147) (k := x2.toNatClampNeg) rfl
            refine (s_X1_result w SS_21 (by show (0 : Int) ≤ ((m.1 146 x2.toNatClampNeg)).toInt; omega) (by show ((m.1 146 x2.toNatClampNeg)).toInt ≤ (7 : Int); omega) (by show (0 : Int) ≤ ((m.1 147 x2.toNatClampNeg)).toInt; omega) (by show ((m.1 147 x2.toNatClampNeg)).toInt ≤ (7 : Int); omega)).to ?_
            rintro _ m1 ⟨w_m1, g9, v2, rfl, p10, p11⟩
            have f_m1 : Fx (RS [9, 14]) m0 m1 := f.tr g9 (RS_sub rfl)
            have e12 : (m1.1 0 18).toInt = ((m.1 0 18)).toInt := congrArg _ (g9.at (a := 0) (k := 18) (by decide))
            have e13 : (m1.1 3 3).toInt = ((m.1 3 3)).toInt := congrArg _ (g9.at (a := 3) (k := 3) (by decide))
            refine ⟨v2, rfl, ?_⟩
            refine ⟨?_, ?_⟩
            · exact vpi (by omega) (by omega)
            · refine ⟨?_, ?_⟩
              · intro c14
                have k15 := z_eq c14
                have t16 := ti_addc (x := x2) (y := (1 : Int32)) (c := 1) rfl (by omega)
                exact ih.2.1 _ _ _ w_m1 f_m1 (by show (0 : Int) ≤ ((x2 + (1 : Int32))).toInt; omega) (by show ((x2 + (1 : Int32))).toInt ≤ (12 : Int); omega) (by show 500 - ((x2 + (1 : Int32))).toInt < _; omega)
              · intro c17
                have k18 := z_ne c17
                refine (s_X11_countThrowers w_m1 (by show (0 : Int) ≤ (x2).toInt; omega) (by show (x2).toInt ≤ (11 : Int); omega)).to ?_
                rintro _ m3 ⟨w_m3, g19, rfl⟩
                have f_m3 : Fx (RS [9, 14]) m0 m3 := f_m1.tr g19 (RS_sub rfl)
                have e20 : (m3.1 3 3).toInt = ((m1.1 3 3)).toInt := congrArg _ (g19.at (a := 3) (k := 3) (by decide))
                refine ⟨rfl, ?_⟩
                have t21 := ti_addc (x := x2) (y := (1 : Int32)) (c := 1) rfl (by omega)
                exact ih.2.1 _ _ _ w_m3 f_m3 (by show (0 : Int) ≤ ((x2 + (1 : Int32))).toInt; omega) (by show ((x2 + (1 : Int32))).toInt ≤ (12 : Int); omega) (by show 500 - ((x2 + (1 : Int32))).toInt < _; omega)
    · intro m x1 x2 x3 w f j1 j2 j3 j4 hn
      refine g_X11_found_87  ?_
      refine ⟨?_, ?_⟩
      · intro c1
        have r2 := w.at (a := 3) (k := 3) rfl
        have k3 := z_le c1
        refine (s_J6_bitCount w).to ?_
        rintro _ m1 ⟨w_m1, g4, v2, rfl⟩
        have f_m1 : Fx (RS [9, 14]) m0 m1 := f.tr g4 (RS_sub rfl)
        have e5 : (m1.1 0 18).toInt = ((m.1 0 18)).toInt := congrArg _ (g4.at (a := 0) (k := 18) (by decide))
        have e6 : (m1.1 3 3).toInt = ((m.1 3 3)).toInt := congrArg _ (g4.at (a := 3) (k := 3) (by decide))
        refine ⟨v2, rfl, ?_⟩
        refine ⟨?_, ?_⟩
        · intro c7
          have k8 := y_ner (n := 0) rfl c7
          exact ih.2.2.2 _ _ _ _ _ w_m1 f_m1 (by show (0 : Int) ≤ (x2).toInt; omega) (by show (x2).toInt ≤ (7 : Int); omega) (by show 0 * (x2).toInt < _; omega)
        · intro c9
          have k10 := y_eqr (n := 0) rfl c9
          exact ih.2.2.2 _ _ _ _ _ w_m1 f_m1 (by show (0 : Int) ≤ (x2).toInt; omega) (by show (x2).toInt ≤ (7 : Int); omega) (by show 0 * (x2).toInt < _; omega)
      · intro c11
        have r12 := w.at (a := 3) (k := 3) rfl
        have k13 := z_nle c11
        refine ⟨?_, ?_⟩
        · exact vpi (by omega) (by omega)
        · refine ⟨?_, ?_⟩
          · exact vpi (by omega) (by omega)
          · refine ⟨?_, ?_⟩
            · intro c14
              have k15 := z_le c14
              have t16 := ti_addc (x := x3) (y := (1 : Int32)) (c := 1) rfl (by omega)
              exact ih.2.2.1 _ _ _ _ w f (by show (0 : Int) ≤ (x2).toInt; omega) (by show (x2).toInt ≤ (7 : Int); omega) (by show (0 : Int) ≤ ((x3 + (1 : Int32))).toInt; omega) (by show ((x3 + (1 : Int32))).toInt ≤ (8 : Int); omega) (by show 100 - ((x3 + (1 : Int32))).toInt < _; omega)
            · intro c17
              have k18 := z_nle c17
              have t19 := ti_addc (x := x3) (y := (1 : Int32)) (c := 1) rfl (by omega)
              exact ih.2.2.1 _ _ _ _ w f (by show (0 : Int) ≤ (x3).toInt; omega) (by show (x3).toInt ≤ (7 : Int); omega) (by show (0 : Int) ≤ ((x3 + (1 : Int32))).toInt; omega) (by show ((x3 + (1 : Int32))).toInt ≤ (8 : Int); omega) (by show 100 - ((x3 + (1 : Int32))).toInt < _; omega)
    · intro m x1 x2 z0 z1 w f j1 j2 hn
      refine g_X11_found_139  ?_
      refine ⟨?_, ?_⟩
      · exact vpi (by omega) (by omega)
      · refine (n_X11_tell__ w).to ?_
        rintro _ m1 ⟨w_m1, g1, rfl, p2⟩
        have f_m1 : Fx (RS [9, 14]) m0 m1 := f.tr g1 (RS_sub rfl)
        have p3 : (m1.1 0 18).toInt = 3 := p2
        clear p2
        have e4 : (m1.1 3 3).toInt = ((m.1 3 3)).toInt := congrArg _ (g1.at (a := 3) (k := 3) (by decide))
        refine ⟨rfl, ?_⟩
        have r5 := w_m1.at (a := 0) (k := 18) rfl
        exact ⟨w_m1, f_m1, _, rfl, (by show ((m1.1 0 18)).toInt = 3; omega)⟩
set_option maxHeartbeats 4000000 in
theorem n_X11_found {ad : Nat → Nat} {d : Nat} {m : Wm} (w : WT m) : Ct ad μX11_found (d + 5) [.ref (ad 0)] m (fun r m' => WT m' ∧ Fx (RS [9, 14]) m m' ∧ ∃ v : Int32, r = some (.int v) ∧ ((m'.1 0 18).toInt = 3)) := by
  have f : Fx (RS [9, 14]) m m := Fx.rf
  refine v_X11_found  ?_
  exact (nl_X11_found (m0 := m) 1000000).1 _ _ w f (by show (0 : Int) ≤ (0 : Int); omega) (by show (0 : Int) ≤ (8 : Int); omega) (by show 1000 - (0 : Int) < _; omega)
set_option maxHeartbeats 4000000 in
theorem nl_X11_prize {ad : Nat → Nat} {d : Nat} {m0 : Wm}  : ∀ n : Nat, (∀ (m : Wm) (x1 x2 x3 : Int32), WT m → Fx (RS [9]) m0 m → (0 : Int) ≤ x1.toInt → x1.toInt ≤ (7 : Int) → (0 : Int) ≤ x3.toInt → x3.toInt ≤ (8 : Int) → 8 - x3.toInt < (n : Int) → AW ad E0 μX11_prize (d + 1) (fun r m' => WT m' ∧ Fx (RS [9]) m0 m' ∧ ∃ v : Int32, r = some (.int v) ∧ ((v.toInt = -2 ∧ (m'.1 0 18).toInt = (m0.1 0 18).toInt) ∨ (0 ≤ v.toInt ∧ (m'.1 0 18).toInt = 2))) 19 [(0, .ref (ad 0)), (1, .int x1), (2, .int x2), (3, .int x3)] [] m) := by
  intro n
  induction n with
  | zero =>
    intros
    exfalso
    omega
  | succ n ih =>
    intro m x1 x2 x3 w f j1 j2 j3 j4 hn
    refine g_X11_prize_19  ?_
    refine ⟨?_, ?_⟩
    · intro c1
      have r2 := w.at (a := 3) (k := 3) rfl
      have k3 := z_le c1
      refine ⟨?_, ?_⟩
      · exact vpi (by omega) (by omega)
      · refine (n_X11_tell_ w).to ?_
        rintro _ m1 ⟨w_m1, g4, rfl, p5⟩
        have f_m1 : Fx (RS [9]) m0 m1 := f.tr g4 (RS_sub rfl)
        have p6 : (m1.1 0 18).toInt = 2 := p5
        clear p5
        have e7 : (m1.1 3 3).toInt = ((m.1 3 3)).toInt := congrArg _ (g4.at (a := 3) (k := 3) (by decide))
        refine ⟨rfl, ?_⟩
        have r8 := w_m1.at (a := 0) (k := 18) rfl
        exact ⟨w_m1, f_m1, _, rfl, (by show ((x1).toInt = -2 ∧ ((m1.1 0 18)).toInt = (m0.1 0 18).toInt) ∨ (0 ≤ (x1).toInt ∧ ((m1.1 0 18)).toInt = 2); omega)⟩
    · intro c9
      have r10 := w.at (a := 3) (k := 3) rfl
      have k11 := z_nle c9
      refine ⟨?_, ?_⟩
      · exact vpi (by omega) (by omega)
      · refine ⟨?_, ?_⟩
        · exact vpi (by omega) (by omega)
        · refine ⟨?_, ?_⟩
          · exact vpi (by omega) (by omega)
          · refine ⟨?_, ?_⟩
            · intro c12
              have k13 := z_le c12
              have t14 := ti_addc (x := x3) (y := (1 : Int32)) (c := 1) rfl (by omega)
              exact ih _ _ _ _ w f (by show (0 : Int) ≤ (x1).toInt; omega) (by show (x1).toInt ≤ (7 : Int); omega) (by show (0 : Int) ≤ ((x3 + (1 : Int32))).toInt; omega) (by show ((x3 + (1 : Int32))).toInt ≤ (8 : Int); omega) (by show 8 - ((x3 + (1 : Int32))).toInt < _; omega)
            · intro c15
              have k16 := z_nle c15
              have t17 := ti_addc (x := x3) (y := (1 : Int32)) (c := 1) rfl (by omega)
              exact ih _ _ _ _ w f (by show (0 : Int) ≤ (x3).toInt; omega) (by show (x3).toInt ≤ (7 : Int); omega) (by show (0 : Int) ≤ ((x3 + (1 : Int32))).toInt; omega) (by show ((x3 + (1 : Int32))).toInt ≤ (8 : Int); omega) (by show 8 - ((x3 + (1 : Int32))).toInt < _; omega)
set_option maxHeartbeats 4000000 in
theorem n_X11_prize {ad : Nat → Nat} {d : Nat} {m : Wm} (w : WT m) : Ct ad μX11_prize (d + 1) [.ref (ad 0)] m (fun r m' => WT m' ∧ Fx (RS [9]) m m' ∧ ∃ v : Int32, r = some (.int v) ∧ ((v.toInt = -2 ∧ (m'.1 0 18).toInt = (m.1 0 18).toInt) ∨ (0 ≤ v.toInt ∧ (m'.1 0 18).toInt = 2))) := by
  have f : Fx (RS [9]) m m := Fx.rf
  refine v_X11_prize  ?_
  refine ⟨?_, ?_⟩
  · intro c1
    have r2 := w.at (a := 3) (k := 3) rfl
    have k3 := y_ner (n := 0) rfl c1
    exact (nl_X11_prize (m0 := m) 1000000) _ _ _ _ w f (by show (0 : Int) ≤ (0 : Int); omega) (by show (0 : Int) ≤ (7 : Int); omega) (by show (0 : Int) ≤ (0 : Int); omega) (by show (0 : Int) ≤ (8 : Int); omega) (by show 8 - (0 : Int) < _; omega)
  · intro c4
    have r5 := w.at (a := 3) (k := 3) rfl
    have k6 := y_eqr (n := 0) rfl c4
    have r7 := w.at (a := 0) (k := 18) rfl
    exact ⟨w, f, _, rfl, (by show ((-2 : Int) = -2 ∧ ((m.1 0 18)).toInt = (m.1 0 18).toInt) ∨ (0 ≤ (-2 : Int) ∧ ((m.1 0 18)).toInt = 2); omega)⟩
set_option maxHeartbeats 4000000 in
theorem nl_X11_laws {ad : Nat → Nat} {d : Nat} {m0 : Wm}  : ∀ n : Nat, (∀ (m : Wm) (x1 x2 x3 x4 : Int32), WT m → Fx (RS [2, 5, 9, 14, 43]) m0 m → (0 : Int) ≤ x1.toInt → x1.toInt ≤ (50 : Int) → (0 : Int) ≤ x3.toInt → x3.toInt ≤ (3 : Int) → (0 : Int) ≤ x4.toInt → x4.toInt ≤ (4 : Int) → 4 - x4.toInt < (n : Int) → AW ad E0 μX11_laws (d + 6) (fun r m' => WT m' ∧ Fx (RS [2, 5, 9, 14, 43]) m0 m' ∧ ∃ v : Int32, r = some (.int v) ∧ ((v.toInt = -1 ∧ (m'.1 0 18).toInt = (m0.1 0 18).toInt) ∨ (0 ≤ v.toInt ∧ (m'.1 0 18).toInt = 4))) 37 [(0, .ref (ad 0)), (1, .int x1), (2, .int x2), (3, .int x3), (4, .int x4)] [] m) := by
  intro n
  induction n with
  | zero =>
    intros
    exfalso
    omega
  | succ n ih =>
    intro m x1 x2 x3 x4 w f j1 j2 j3 j4 j5 j6 hn
    refine g_X11_laws_37  ?_
    refine ⟨?_, ?_⟩
    · intro c1
      have k2 := y_lel (n := 4) rfl c1
      have w3 : WT (uI m 4 ((0 : Int32).toNatClampNeg) x2) := w.n rfl
      have f3 : Fx (RS [2, 5, 9, 14, 43]) m0 (uI m 4 ((0 : Int32).toNatClampNeg) x2) := f.i rfl
      have w4 : WT (uI (uI m 4 ((0 : Int32).toNatClampNeg) x2) 0 18 (4 : Int32)) := w3.t rfl (by show (0 : Int) ≤ (4 : Int); omega) (by show (4 : Int) ≤ 10; omega)
      have f4 : Fx (RS [2, 5, 9, 14, 43]) m0 (uI (uI m 4 ((0 : Int32).toNatClampNeg) x2) 0 18 (4 : Int32)) := f3.i rfl
      exact ⟨w4, f4, _, rfl, (by show ((x3).toInt = -1 ∧ (4 : Int) = (m0.1 0 18).toInt) ∨ (0 ≤ (x3).toInt ∧ (4 : Int) = 4); omega)⟩
    · intro c5
      have k6 := y_nlel (n := 4) rfl c5
      have w7 : WT (uI m 4 ((0 : Int32).toNatClampNeg) x4) := w.n rfl
      have f7 : Fx (RS [2, 5, 9, 14, 43]) m0 (uI m 4 ((0 : Int32).toNatClampNeg) x4) := f.i rfl
      refine (s_X11_playAhead w7 (by show (0 : Int) ≤ (x1).toInt; omega) (by show (x1).toInt ≤ (50 : Int); omega)).to ?_
      rintro _ m1 ⟨w_m1, g8, rfl⟩
      have f_m1 : Fx (RS [2, 5, 9, 14, 43]) m0 m1 := f7.tr g8 (RS_sub rfl)
      have e9 : (m1.1 0 18).toInt = ((m.1 0 18)).toInt := congrArg _ (g8.at (a := 0) (k := 18) (by decide))
      have e10 : (m1.1 3 3).toInt = ((m.1 3 3)).toInt := congrArg _ (g8.at (a := 3) (k := 3) (by decide))
      refine ⟨rfl, ?_⟩
      refine (s_X1_total w_m1 SS_26).to ?_
      rintro _ m2 ⟨w_m2, g11, v3, rfl⟩
      have f_m2 : Fx (RS [2, 5, 9, 14, 43]) m0 m2 := f_m1.tr g11 (RS_sub rfl)
      have e12 : (m2.1 0 18).toInt = ((m1.1 0 18)).toInt := congrArg _ (g11.at (a := 0) (k := 18) (by decide))
      have e13 : (m2.1 3 3).toInt = ((m1.1 3 3)).toInt := congrArg _ (g11.at (a := 3) (k := 3) (by decide))
      refine ⟨v3, rfl, ?_⟩
      refine ⟨?_, ?_⟩
      · exact vpi (by omega) (by omega)
      · refine ⟨?_, ?_⟩
        · exact vpi (by omega) (by omega)
        · refine ⟨?_, ?_⟩
          · exact vpi (by omega) (by omega)
          · refine ⟨?_, ?_⟩
            · intro c14
              have w15 : WT (uL m2 150 x4.toNatClampNeg v3.toInt64) := w_m2.l
              have f15 : Fx (RS [2, 5, 9, 14, 43]) m0 (uL m2 150 x4.toNatClampNeg v3.toInt64) := f_m2.l rfl
              have t16 := ti_addc (x := x4) (y := (1 : Int32)) (c := 1) rfl (by omega)
              exact ih _ _ _ _ _ w15 f15 (by show (0 : Int) ≤ (x1).toInt; omega) (by show (x1).toInt ≤ (50 : Int); omega) (by show (0 : Int) ≤ (x3).toInt; omega) (by show (x3).toInt ≤ (3 : Int); omega) (by show (0 : Int) ≤ ((x4 + (1 : Int32))).toInt; omega) (by show ((x4 + (1 : Int32))).toInt ≤ (4 : Int); omega) (by show 4 - ((x4 + (1 : Int32))).toInt < _; omega)
            · intro c17
              have w18 : WT (uL m2 150 x4.toNatClampNeg v3.toInt64) := w_m2.l
              have f18 : Fx (RS [2, 5, 9, 14, 43]) m0 (uL m2 150 x4.toNatClampNeg v3.toInt64) := f_m2.l rfl
              have t19 := ti_addc (x := x4) (y := (1 : Int32)) (c := 1) rfl (by omega)
              exact ih _ _ _ _ _ w18 f18 (by show (0 : Int) ≤ (x1).toInt; omega) (by show (x1).toInt ≤ (50 : Int); omega) (by show (0 : Int) ≤ (x4).toInt; omega) (by show (x4).toInt ≤ (3 : Int); omega) (by show (0 : Int) ≤ ((x4 + (1 : Int32))).toInt; omega) (by show ((x4 + (1 : Int32))).toInt ≤ (4 : Int); omega) (by show 4 - ((x4 + (1 : Int32))).toInt < _; omega)
set_option maxHeartbeats 4000000 in
theorem n_X11_laws {ad : Nat → Nat} {d : Nat} {m : Wm} {x1 : Int32} (w : WT m) : Ct ad μX11_laws (d + 6) [.ref (ad 0), .int x1] m (fun r m' => WT m' ∧ Fx (RS [2, 5, 9, 14, 43]) m m' ∧ ∃ v : Int32, r = some (.int v) ∧ ((v.toInt = -1 ∧ (m'.1 0 18).toInt = (m.1 0 18).toInt) ∨ (0 ≤ v.toInt ∧ (m'.1 0 18).toInt = 4))) := by
  have f : Fx (RS [2, 5, 9, 14, 43]) m m := Fx.rf
  refine v_X11_laws  ?_
  refine ⟨?_, ?_⟩
  · intro c1
    have k2 := y_ltr (n := 0) rfl c1
    have r3 := w.at (a := 0) (k := 18) rfl
    exact ⟨w, f, _, rfl, (by show ((-1 : Int) = -1 ∧ ((m.1 0 18)).toInt = (m.1 0 18).toInt) ∨ (0 ≤ (-1 : Int) ∧ ((m.1 0 18)).toInt = 4); omega)⟩
  · intro c4
    have k5 := y_nltr (n := 0) rfl c4
    refine ⟨?_, ?_⟩
    · intro c6
      have k7 := y_ltl (n := 50) rfl c6
      have r8 := w.at (a := 0) (k := 18) rfl
      exact ⟨w, f, _, rfl, (by show ((-1 : Int) = -1 ∧ ((m.1 0 18)).toInt = (m.1 0 18).toInt) ∨ (0 ≤ (-1 : Int) ∧ ((m.1 0 18)).toInt = 4); omega)⟩
    · intro c9
      have k10 := y_nltl (n := 50) rfl c9
      obtain ⟨r1, e11, q12⟩ := w.r09
      refine ⟨r1, e11, Pl_of q12, ?_⟩
      refine ⟨?_, ?_⟩
      · intro c13
        have r14 := w.pl (k := 5) q12 rfl rfl
        have k15 := y_ner (n := 0) rfl c13
        exact (nl_X11_laws (m0 := m) 1000000) _ _ _ _ _ w f (by show (0 : Int) ≤ (x1).toInt; omega) (by show (x1).toInt ≤ (50 : Int); omega) (by show (0 : Int) ≤ (0 : Int); omega) (by show (0 : Int) ≤ (3 : Int); omega) (by show (0 : Int) ≤ (0 : Int); omega) (by show (0 : Int) ≤ (4 : Int); omega) (by show 4 - (0 : Int) < _; omega)
      · intro c16
        have r17 := w.pl (k := 5) q12 rfl rfl
        have k18 := y_eqr (n := 0) rfl c16
        have r19 := w.at (a := 0) (k := 18) rfl
        exact ⟨w, f, _, rfl, (by show ((-1 : Int) = -1 ∧ ((m.1 0 18)).toInt = (m.1 0 18).toInt) ∨ (0 ≤ (-1 : Int) ∧ ((m.1 0 18)).toInt = 4); omega)⟩
set_option maxHeartbeats 4000000 in
theorem nl_X12_goRounds {ad : Nat → Nat} {d : Nat} {m0 : Wm}  : ∀ n : Nat, (∀ (m : Wm) (x1 x2 x3 x4 x5 : Int32), WT m → Fx (RS [22, 24, 28, 29, 31, 49]) m0 m → (0 : Int) ≤ x1.toInt → x1.toInt ≤ (200 : Int) → (0 : Int) ≤ x5.toInt → x5.toInt ≤ (200 : Int) → (1 ≤ (m.1 187 11).toInt) → (0 ≤ (m.1 187 32).toInt ∧ (m.1 187 32).toInt ≤ 40 * x5.toInt) → (200 - x5.toInt) * 1000 + 900 < (n : Int) → AW ad E0 μX12_goRounds (d + 171) (fun r m' => WT m' ∧ Fx (RS [22, 24, 28, 29, 31, 49]) m0 m' ∧ r = none ∧ (0 ≤ (m'.1 187 32).toInt)) 13 [(0, .ref (ad 187)), (1, .int x1), (2, .int x2), (3, .int x3), (4, .int x4), (5, .int x5)] [] m) ∧ (∀ (m : Wm) (x1 x2 x3 x4 x5 x6 x7 : Int32), WT m → Fx (RS [22, 24, 28, 29, 31, 49]) m0 m → (0 : Int) ≤ x1.toInt → x1.toInt ≤ (200 : Int) → (0 : Int) ≤ x5.toInt → x5.toInt ≤ (199 : Int) → (0 : Int) ≤ x7.toInt → x7.toInt ≤ (40 : Int) → (1 ≤ (m.1 187 11).toInt) → (0 ≤ (m.1 187 32).toInt ∧ (m.1 187 32).toInt ≤ 40 * x5.toInt + x7.toInt) → (200 - x5.toInt) * 1000 + (40 - x7.toInt) * 4 + 3 < (n : Int) → AW ad E0 μX12_goRounds (d + 171) (fun r m' => WT m' ∧ Fx (RS [22, 24, 28, 29, 31, 49]) m0 m' ∧ r = none ∧ (0 ≤ (m'.1 187 32).toInt)) 33 [(0, .ref (ad 187)), (1, .int x1), (2, .int x2), (3, .int x3), (4, .int x4), (5, .int x5), (6, .int x6), (7, .int x7)] [] m) ∧ (∀ (m : Wm) (x1 x2 x3 x4 x5 x6 x7 : Int32), WT m → Fx (RS [22, 24, 28, 29, 31, 49]) m0 m → (0 : Int) ≤ x1.toInt → x1.toInt ≤ (200 : Int) → (0 : Int) ≤ x5.toInt → x5.toInt ≤ (199 : Int) → (0 : Int) ≤ x7.toInt → x7.toInt ≤ (39 : Int) → (1 ≤ (m.1 187 11).toInt) → (0 ≤ (m.1 187 32).toInt ∧ (m.1 187 32).toInt ≤ 40 * x5.toInt + x7.toInt) → (200 - x5.toInt) * 1000 + (40 - x7.toInt) * 4 + 2 < (n : Int) → AW ad E0 μX12_goRounds (d + 171) (fun r m' => WT m' ∧ Fx (RS [22, 24, 28, 29, 31, 49]) m0 m' ∧ r = none ∧ (0 ≤ (m'.1 187 32).toInt)) 69 [(0, .ref (ad 187)), (1, .int x1), (2, .int x2), (3, .int x3), (4, .int x4), (5, .int x5), (6, .int x6), (7, .int x7)] [] m) ∧ (∀ (m : Wm) (x1 x2 x3 x4 x5 x6 x7 s0 s1 : Int32), WT m → Fx (RS [22, 24, 28, 29, 31, 49]) m0 m → (0 : Int) ≤ x1.toInt → x1.toInt ≤ (200 : Int) → (0 : Int) ≤ x5.toInt → x5.toInt ≤ (199 : Int) → (0 : Int) ≤ x7.toInt → x7.toInt ≤ (39 : Int) → (1 ≤ (m.1 187 11).toInt) → (0 ≤ (m.1 187 32).toInt ∧ (m.1 187 32).toInt ≤ 40 * x5.toInt + x7.toInt) → (200 - x5.toInt) * 1000 + (40 - x7.toInt) * 4 + 1 < (n : Int) → AW ad E0 μX12_goRounds (d + 171) (fun r m' => WT m' ∧ Fx (RS [22, 24, 28, 29, 31, 49]) m0 m' ∧ r = none ∧ (0 ≤ (m'.1 187 32).toInt)) 120 [(0, .ref (ad 187)), (1, .int x1), (2, .int x2), (3, .int x3), (4, .int x4), (5, .int x5), (6, .int x6), (7, .int x7)] [.int s0, .int s1, .ref (ad 187)] m) := by
  intro n
  induction n with
  | zero =>
    refine ⟨?_, ?_, ?_, ?_⟩ <;> intros <;> exfalso <;> omega
  | succ n ih =>
    refine ⟨?_, ?_, ?_, ?_⟩
    · intro m x1 x2 x3 x4 x5 w f j1 j2 j3 j4 j5 j6 hn
      refine g_X12_goRounds_13  ?_
      refine ⟨?_, ?_⟩
      · intro c1
        have k2 := z_le c1
        exact ⟨w, f, rfl, (by show 0 ≤ ((m.1 187 32)).toInt; omega)⟩
      · intro c3
        have k4 := z_nle c3
        refine ⟨?_, ?_⟩
        · have r5 := w.at (a := 187) (k := 11) rfl
          first | assumption | (show ¬ (m.1 187 11) = (0 : Int32); exact y_nn (n := 0) rfl (by omega))
        · have r6 := w.at (a := 187) (k := 11) rfl
          exact ih.2.1 _ _ _ _ _ _ _ _ w f (by show (0 : Int) ≤ (x1).toInt; omega) (by show (x1).toInt ≤ (200 : Int); omega) (by show (0 : Int) ≤ (x5).toInt; omega) (by show (x5).toInt ≤ (199 : Int); omega) (by show (0 : Int) ≤ (0 : Int); omega) (by show (0 : Int) ≤ (40 : Int); omega) (by show 1 ≤ ((m.1 187 11)).toInt; omega) (by show 0 ≤ ((m.1 187 32)).toInt ∧ ((m.1 187 32)).toInt ≤ 40 * (x5).toInt + (0 : Int); omega) (by show (200 - (x5).toInt) * 1000 + (40 - (0 : Int)) * 4 + 3 < _; omega)
    · intro m x1 x2 x3 x4 x5 x6 x7 w f j1 j2 j3 j4 j5 j6 j7 j8 hn
      refine g_X12_goRounds_33  ?_
      refine ⟨?_, ?_⟩
      · intro c1
        have r2 := w.at (a := 187) (k := 10) rfl
        have k3 := z_le c1
        have t4 := ti_addc (x := x5) (y := (1 : Int32)) (c := 1) rfl (by omega)
        have r5 := w.at (a := 187) (k := 11) rfl
        exact ih.1 _ _ _ _ _ _ w f (by show (0 : Int) ≤ (x1).toInt; omega) (by show (x1).toInt ≤ (200 : Int); omega) (by show (0 : Int) ≤ ((x5 + (1 : Int32))).toInt; omega) (by show ((x5 + (1 : Int32))).toInt ≤ (200 : Int); omega) (by show 1 ≤ ((m.1 187 11)).toInt; omega) (by show 0 ≤ ((m.1 187 32)).toInt ∧ ((m.1 187 32)).toInt ≤ 40 * ((x5 + (1 : Int32))).toInt; omega) (by show (200 - ((x5 + (1 : Int32))).toInt) * 1000 + 900 < _; omega)
      · intro c6
        have r7 := w.at (a := 187) (k := 10) rfl
        have k8 := z_nle c6
        refine ⟨?_, ?_⟩
        · have t9 := ti_mulc (c := 4) (y := (4 : Int32)) (x := x7) rfl (by omega)
          have t10 := ti_addc (x := ((4 : Int32) * x7)) (y := (3 : Int32)) (c := 3) rfl (by omega)
          exact vpi (by omega) (by omega)
        · refine ⟨?_, ?_⟩
          · intro c11
            have k12 := z_eq c11
            refine ⟨?_, ?_⟩
            · intro c13
              have k14 := y_eqr (n := 0) rfl c13
              have r15 := w.at (a := 187) (k := 11) rfl
              exact ih.2.2.1 _ _ _ _ _ _ _ _ w f (by show (0 : Int) ≤ (x1).toInt; omega) (by show (x1).toInt ≤ (200 : Int); omega) (by show (0 : Int) ≤ (x5).toInt; omega) (by show (x5).toInt ≤ (199 : Int); omega) (by show (0 : Int) ≤ (x7).toInt; omega) (by show (x7).toInt ≤ (39 : Int); omega) (by show 1 ≤ ((m.1 187 11)).toInt; omega) (by show 0 ≤ ((m.1 187 32)).toInt ∧ ((m.1 187 32)).toInt ≤ 40 * (x5).toInt + (x7).toInt; omega) (by show (200 - (x5).toInt) * 1000 + (40 - (x7).toInt) * 4 + 2 < _; omega)
            · intro c16
              have k17 := y_ner (n := 0) rfl c16
              refine (s_X12_remember w).to ?_
              rintro _ m1 ⟨w_m1, g18, rfl⟩
              have f_m1 : Fx (RS [22, 24, 28, 29, 31, 49]) m0 m1 := f.tr g18 (RS_sub rfl)
              have e19 : (m1.1 187 11).toInt = ((m.1 187 11)).toInt := congrArg _ (g18.at (a := 187) (k := 11) (by decide))
              have e20 : (m1.1 187 10).toInt = ((m.1 187 10)).toInt := congrArg _ (g18.at (a := 187) (k := 10) (by decide))
              have e21 : (m1.1 187 1).toInt = ((m.1 187 1)).toInt := congrArg _ (g18.at (a := 187) (k := 1) (by decide))
              have e22 : (m1.1 187 0).toInt = ((m.1 187 0)).toInt := congrArg _ (g18.at (a := 187) (k := 0) (by decide))
              have e23 : (m1.1 187 16).toInt = ((m.1 187 16)).toInt := congrArg _ (g18.at (a := 187) (k := 16) (by decide))
              have e24 : (m1.1 187 32).toInt = ((m.1 187 32)).toInt := congrArg _ (g18.at (a := 187) (k := 32) (by decide))
              refine ⟨rfl, ?_⟩
              have r25 := w_m1.at (a := 187) (k := 11) rfl
              exact ih.2.2.1 _ _ _ _ _ _ _ _ w_m1 f_m1 (by show (0 : Int) ≤ (x1).toInt; omega) (by show (x1).toInt ≤ (200 : Int); omega) (by show (0 : Int) ≤ (x5).toInt; omega) (by show (x5).toInt ≤ (199 : Int); omega) (by show (0 : Int) ≤ (x7).toInt; omega) (by show (x7).toInt ≤ (39 : Int); omega) (by show 1 ≤ ((m1.1 187 11)).toInt; omega) (by show 0 ≤ ((m1.1 187 32)).toInt ∧ ((m1.1 187 32)).toInt ≤ 40 * (x5).toInt + (x7).toInt; omega) (by show (200 - (x5).toInt) * 1000 + (40 - (x7).toInt) * 4 + 2 < _; omega)
          · intro c26
            have k27 := z_ne c26
            have t28 := ti_addc (x := x7) (y := (1 : Int32)) (c := 1) rfl (by omega)
            have r29 := w.at (a := 187) (k := 11) rfl
            exact ih.2.1 _ _ _ _ _ _ _ _ w f (by show (0 : Int) ≤ (x1).toInt; omega) (by show (x1).toInt ≤ (200 : Int); omega) (by show (0 : Int) ≤ (x5).toInt; omega) (by show (x5).toInt ≤ (199 : Int); omega) (by show (0 : Int) ≤ ((x7 + (1 : Int32))).toInt; omega) (by show ((x7 + (1 : Int32))).toInt ≤ (40 : Int); omega) (by show 1 ≤ ((m.1 187 11)).toInt; omega) (by show 0 ≤ ((m.1 187 32)).toInt ∧ ((m.1 187 32)).toInt ≤ 40 * (x5).toInt + ((x7 + (1 : Int32))).toInt; omega) (by show (200 - (x5).toInt) * 1000 + (40 - ((x7 + (1 : Int32))).toInt) * 4 + 3 < _; omega)
    · intro m x1 x2 x3 x4 x5 x6 x7 w f j1 j2 j3 j4 j5 j6 j7 j8 hn
      refine g_X12_goRounds_69  ?_
      refine ⟨?_, ?_⟩
      · have t1 := ti_mulc (c := 4) (y := (4 : Int32)) (x := x7) rfl (by omega)
        exact vpi (by omega) (by omega)
      · refine ⟨?_, ?_⟩
        · have t2 := ti_mulc (c := 4) (y := (4 : Int32)) (x := x7) rfl (by omega)
          have t3 := ti_addc (x := ((4 : Int32) * x7)) (y := (1 : Int32)) (c := 1) rfl (by omega)
          exact vpi (by omega) (by omega)
        · refine ⟨?_, ?_⟩
          · have t4 := ti_mulc (c := 4) (y := (4 : Int32)) (x := x7) rfl (by omega)
            have t5 := ti_addc (x := ((4 : Int32) * x7)) (y := (2 : Int32)) (c := 2) rfl (by omega)
            exact vpi (by omega) (by omega)
          · have r6 := w.p40 (x := x7) ⟨by omega, by omega⟩
            have r7 := w.p41 (x := x7) ⟨by omega, by omega⟩
            refine (s_X12_goGame w (by show (0 : Int) ≤ ((m.1 194 (((4 : Int32) * x7).toNatClampNeg))).toInt; omega) (by show ((m.1 194 (((4 : Int32) * x7).toNatClampNeg))).toInt ≤ (7 : Int); omega) (by show (0 : Int) ≤ ((m.1 194 ((((4 : Int32) * x7) + (1 : Int32)).toNatClampNeg))).toInt; omega) (by show ((m.1 194 ((((4 : Int32) * x7) + (1 : Int32)).toNatClampNeg))).toInt ≤ (7 : Int); omega)).to ?_
            rintro _ m1 ⟨w_m1, g8, v2, rfl, p9, p10⟩
            have f_m1 : Fx (RS [22, 24, 28, 29, 31, 49]) m0 m1 := f.tr g8 (RS_sub rfl)
            have e11 : (m1.1 187 11).toInt = ((m.1 187 11)).toInt := congrArg _ (g8.at (a := 187) (k := 11) (by decide))
            have e12 : (m1.1 187 10).toInt = ((m.1 187 10)).toInt := congrArg _ (g8.at (a := 187) (k := 10) (by decide))
            have e13 : (m1.1 187 1).toInt = ((m.1 187 1)).toInt := congrArg _ (g8.at (a := 187) (k := 1) (by decide))
            have e14 : (m1.1 187 0).toInt = ((m.1 187 0)).toInt := congrArg _ (g8.at (a := 187) (k := 0) (by decide))
            have e15 : (m1.1 187 16).toInt = ((m.1 187 16)).toInt := congrArg _ (g8.at (a := 187) (k := 16) (by decide))
            have e16 : (m1.1 187 32).toInt = ((m.1 187 32)).toInt := congrArg _ (g8.at (a := 187) (k := 32) (by decide))
            refine ⟨v2, rfl, ?_⟩
            refine ⟨?_, ?_⟩
            · intro c17
              have k18 := y_ner (n := 2) rfl c17
              have r19 := w_m1.at (a := 187) (k := 11) rfl
              exact ih.2.2.2 _ _ _ _ _ _ _ _ _ _ w_m1 f_m1 (by show (0 : Int) ≤ (x1).toInt; omega) (by show (x1).toInt ≤ (200 : Int); omega) (by show (0 : Int) ≤ (x5).toInt; omega) (by show (x5).toInt ≤ (199 : Int); omega) (by show (0 : Int) ≤ (x7).toInt; omega) (by show (x7).toInt ≤ (39 : Int); omega) (by show 1 ≤ ((m1.1 187 11)).toInt; omega) (by show 0 ≤ ((m1.1 187 32)).toInt ∧ ((m1.1 187 32)).toInt ≤ 40 * (x5).toInt + (x7).toInt; omega) (by show (200 - (x5).toInt) * 1000 + (40 - (x7).toInt) * 4 + 1 < _; omega)
            · intro c20
              have k21 := y_eqr (n := 2) rfl c20
              have r22 := w_m1.at (a := 187) (k := 11) rfl
              exact ih.2.2.2 _ _ _ _ _ _ _ _ _ _ w_m1 f_m1 (by show (0 : Int) ≤ (x1).toInt; omega) (by show (x1).toInt ≤ (200 : Int); omega) (by show (0 : Int) ≤ (x5).toInt; omega) (by show (x5).toInt ≤ (199 : Int); omega) (by show (0 : Int) ≤ (x7).toInt; omega) (by show (x7).toInt ≤ (39 : Int); omega) (by show 1 ≤ ((m1.1 187 11)).toInt; omega) (by show 0 ≤ ((m1.1 187 32)).toInt ∧ ((m1.1 187 32)).toInt ≤ 40 * (x5).toInt + (x7).toInt; omega) (by show (200 - (x5).toInt) * 1000 + (40 - (x7).toInt) * 4 + 1 < _; omega)
    · intro m x1 x2 x3 x4 x5 x6 x7 s0 s1 w f j1 j2 j3 j4 j5 j6 j7 j8 hn
      refine g_X12_goRounds_120  ?_
      have w1 : WT (uI m 187 33 (s1 + s0)) := w.n rfl
      have f1 : Fx (RS [22, 24, 28, 29, 31, 49]) m0 (uI m 187 33 (s1 + s0)) := f.i rfl
      have w2 : WT (uI (uI m 187 33 (s1 + s0)) 187 32 (((uI m 187 33 (s1 + s0)).1 187 32) + (1 : Int32))) := w1.n rfl
      have f2 : Fx (RS [22, 24, 28, 29, 31, 49]) m0 (uI (uI m 187 33 (s1 + s0)) 187 32 (((uI m 187 33 (s1 + s0)).1 187 32) + (1 : Int32))) := f1.i rfl
      have t3 := ti_addc (x := x7) (y := (1 : Int32)) (c := 1) rfl (by omega)
      have r4 := w.at (a := 187) (k := 11) rfl
      have t5 := ti_addc (x := (m.1 187 32)) (y := (1 : Int32)) (c := 1) rfl (by omega)
      exact ih.2.1 _ _ _ _ _ _ _ _ w2 f2 (by show (0 : Int) ≤ (x1).toInt; omega) (by show (x1).toInt ≤ (200 : Int); omega) (by show (0 : Int) ≤ (x5).toInt; omega) (by show (x5).toInt ≤ (199 : Int); omega) (by show (0 : Int) ≤ ((x7 + (1 : Int32))).toInt; omega) (by show ((x7 + (1 : Int32))).toInt ≤ (40 : Int); omega) (by show 1 ≤ ((m.1 187 11)).toInt; omega) (by show 0 ≤ (((m.1 187 32) + (1 : Int32))).toInt ∧ (((m.1 187 32) + (1 : Int32))).toInt ≤ 40 * (x5).toInt + ((x7 + (1 : Int32))).toInt; omega) (by show (200 - (x5).toInt) * 1000 + (40 - ((x7 + (1 : Int32))).toInt) * 4 + 3 < _; omega)
set_option maxHeartbeats 4000000 in
theorem n_X12_goRounds {ad : Nat → Nat} {d : Nat} {m : Wm} {x1 x2 x3 x4 : Int32} (w : WT m) (i1 : (0 : Int) ≤ x1.toInt) (i2 : x1.toInt ≤ (200 : Int)) (i3 : 1 ≤ (m.1 187 11).toInt) : Ct ad μX12_goRounds (d + 171) [.ref (ad 187), .int x1, .int x2, .int x3, .int x4] m (fun r m' => WT m' ∧ Fx (RS [22, 24, 28, 29, 31, 49]) m m' ∧ r = none ∧ (0 ≤ (m'.1 187 32).toInt)) := by
  have f : Fx (RS [22, 24, 28, 29, 31, 49]) m m := Fx.rf
  refine v_X12_goRounds  ?_
  have w1 : WT (uI m 187 32 (0 : Int32)) := w.n rfl
  have f1 : Fx (RS [22, 24, 28, 29, 31, 49]) m (uI m 187 32 (0 : Int32)) := f.i rfl
  have w2 : WT (uI (uI m 187 32 (0 : Int32)) 187 33 (0 : Int32)) := w1.n rfl
  have f2 : Fx (RS [22, 24, 28, 29, 31, 49]) m (uI (uI m 187 32 (0 : Int32)) 187 33 (0 : Int32)) := f1.i rfl
  have r3 := w.at (a := 187) (k := 11) rfl
  exact (nl_X12_goRounds (m0 := m) 1000000).1 _ _ _ _ _ _ w2 f2 (by show (0 : Int) ≤ (x1).toInt; omega) (by show (x1).toInt ≤ (200 : Int); omega) (by show (0 : Int) ≤ (0 : Int); omega) (by show (0 : Int) ≤ (200 : Int); omega) (by show 1 ≤ ((m.1 187 11)).toInt; omega) (by show 0 ≤ (0 : Int) ∧ (0 : Int) ≤ 40 * (0 : Int); omega) (by show (200 - (0 : Int)) * 1000 + 900 < _; omega)
set_option maxHeartbeats 4000000 in
theorem nl_X12_game {ad : Nat → Nat} {d : Nat} {m0 : Wm}  : ∀ n : Nat, (∀ (m : Wm) (x1 x2 x4 s0 : Int32), WT m → Fx (RS [20, 22, 26, 28]) m0 m → (0 : Int) ≤ x1.toInt → x1.toInt ≤ (7 : Int) → (0 : Int) ≤ x2.toInt → x2.toInt ≤ (7 : Int) → (0 : Int) ≤ x4.toInt → x4.toInt ≤ (2 : Int) → ((m.1 187 16).toInt = 0) → 0 * x1.toInt + 4 < (n : Int) → AW ad E0 μX12_game (d + 170) (fun r m' => WT m' ∧ Fx (RS [20, 22, 26, 28]) m0 m' ∧ ∃ v : Int32, r = some (.int v) ∧ ((v.toInt = -1 ∧ (m'.1 187 16).toInt = (m0.1 187 16).toInt) ∨ (0 ≤ v.toInt ∧ (m'.1 187 16).toInt = 2))) 69 [(0, .ref (ad 187)), (1, .int x1), (2, .int x2), (4, .int x4)] [.int s0] m) ∧ (∀ (m : Wm) (x1 x2 x4 s0 : Int32), WT m → Fx (RS [20, 22, 26, 28]) m0 m → (0 : Int) ≤ x1.toInt → x1.toInt ≤ (7 : Int) → (0 : Int) ≤ x2.toInt → x2.toInt ≤ (7 : Int) → (0 : Int) ≤ x4.toInt → x4.toInt ≤ (2 : Int) → ((m.1 187 16).toInt = 0) → 0 * x1.toInt + 3 < (n : Int) → AW ad E0 μX12_game (d + 170) (fun r m' => WT m' ∧ Fx (RS [20, 22, 26, 28]) m0 m' ∧ ∃ v : Int32, r = some (.int v) ∧ ((v.toInt = -1 ∧ (m'.1 187 16).toInt = (m0.1 187 16).toInt) ∨ (0 ≤ v.toInt ∧ (m'.1 187 16).toInt = 2))) 92 [(0, .ref (ad 187)), (1, .int x1), (2, .int x2), (4, .int x4)] [.int s0] m) ∧ (∀ (m : Wm) (x4 x8 s0 : Int32), WT m → Fx (RS [20, 22, 26, 28]) m0 m → (0 : Int) ≤ x8.toInt → x8.toInt ≤ (7 : Int) → (0 : Int) ≤ s0.toInt → s0.toInt ≤ (7 : Int) → (0 : Int) ≤ x4.toInt → x4.toInt ≤ (2 : Int) → ((m.1 187 16).toInt = 0) → 0 * x8.toInt + 2 < (n : Int) → AW ad E0 μX12_game (d + 170) (fun r m' => WT m' ∧ Fx (RS [20, 22, 26, 28]) m0 m' ∧ ∃ v : Int32, r = some (.int v) ∧ ((v.toInt = -1 ∧ (m'.1 187 16).toInt = (m0.1 187 16).toInt) ∨ (0 ≤ v.toInt ∧ (m'.1 187 16).toInt = 2))) 116 [(0, .ref (ad 187)), (4, .int x4), (8, .int x8)] [.int s0] m) ∧ (∀ (m : Wm) (x4 x5 x6 : Int32), WT m → Fx (RS [20, 22, 26, 28]) m0 m → (0 : Int) ≤ x4.toInt → x4.toInt ≤ (2 : Int) → ((m.1 187 16).toInt = 0) → 0 * x4.toInt + 1 < (n : Int) → AW ad E0 μX12_game (d + 170) (fun r m' => WT m' ∧ Fx (RS [20, 22, 26, 28]) m0 m' ∧ ∃ v : Int32, r = some (.int v) ∧ ((v.toInt = -1 ∧ (m'.1 187 16).toInt = (m0.1 187 16).toInt) ∨ (0 ≤ v.toInt ∧ (m'.1 187 16).toInt = 2))) 150 [(0, .ref (ad 187)), (4, .int x4), (5, .int x5), (6, .int x6)] [] m) := by
  intro n
  induction n with
  | zero =>
    refine ⟨?_, ?_, ?_, ?_⟩ <;> intros <;> exfalso <;> omega
  | succ n ih =>
    refine ⟨?_, ?_, ?_, ?_⟩
    · intro m x1 x2 x4 s0 w f j1 j2 j3 j4 j5 j6 j7 hn
      refine g_X12_game_69  ?_
      refine ⟨?_, ?_⟩
      · intro c1
        have k2 := y_eqr (n := 1) rfl c1
        refine ⟨?_, ?_⟩
        · intro c3
          have k4 := y_ner (n := 0) rfl c3
          have r5 := w.at (a := 187) (k := 16) rfl
          exact ih.2.1 _ _ _ _ _ w f (by show (0 : Int) ≤ (x1).toInt; omega) (by show (x1).toInt ≤ (7 : Int); omega) (by show (0 : Int) ≤ (x2).toInt; omega) (by show (x2).toInt ≤ (7 : Int); omega) (by show (0 : Int) ≤ (x4).toInt; omega) (by show (x4).toInt ≤ (2 : Int); omega) (by show ((m.1 187 16)).toInt = 0; omega) (by show 0 * (x1).toInt + 3 < _; omega)
        · intro c6
          have k7 := y_eqr (n := 0) rfl c6
          have r8 := w.at (a := 187) (k := 16) rfl
          exact ih.2.1 _ _ _ _ _ w f (by show (0 : Int) ≤ (x1).toInt; omega) (by show (x1).toInt ≤ (7 : Int); omega) (by show (0 : Int) ≤ (x2).toInt; omega) (by show (x2).toInt ≤ (7 : Int); omega) (by show (0 : Int) ≤ (x4).toInt; omega) (by show (x4).toInt ≤ (2 : Int); omega) (by show ((m.1 187 16)).toInt = 0; omega) (by show 0 * (x1).toInt + 3 < _; omega)
      · intro c9
        have k10 := y_ner (n := 1) rfl c9
        refine ⟨?_, ?_⟩
        · intro c11
          have k12 := y_ner (n := 1) rfl c11
          have r13 := w.at (a := 187) (k := 16) rfl
          exact ih.2.1 _ _ _ _ _ w f (by show (0 : Int) ≤ (x1).toInt; omega) (by show (x1).toInt ≤ (7 : Int); omega) (by show (0 : Int) ≤ (x2).toInt; omega) (by show (x2).toInt ≤ (7 : Int); omega) (by show (0 : Int) ≤ (x4).toInt; omega) (by show (x4).toInt ≤ (2 : Int); omega) (by show ((m.1 187 16)).toInt = 0; omega) (by show 0 * (x1).toInt + 3 < _; omega)
        · intro c14
          have k15 := y_eqr (n := 1) rfl c14
          have r16 := w.at (a := 187) (k := 16) rfl
          exact ih.2.1 _ _ _ _ _ w f (by show (0 : Int) ≤ (x1).toInt; omega) (by show (x1).toInt ≤ (7 : Int); omega) (by show (0 : Int) ≤ (x2).toInt; omega) (by show (x2).toInt ≤ (7 : Int); omega) (by show (0 : Int) ≤ (x4).toInt; omega) (by show (x4).toInt ≤ (2 : Int); omega) (by show ((m.1 187 16)).toInt = 0; omega) (by show 0 * (x1).toInt + 3 < _; omega)
    · intro m x1 x2 x4 s0 w f j1 j2 j3 j4 j5 j6 j7 hn
      refine g_X12_game_92  ?_
      refine ⟨?_, ?_⟩
      · intro c1
        have k2 := y_eqr (n := 0) rfl c1
        refine ⟨?_, ?_⟩
        · intro c3
          have k4 := y_eqr (n := 0) rfl c3
          have r5 := w.at (a := 187) (k := 16) rfl
          exact ih.2.2.1 _ _ _ _ w f (by show (0 : Int) ≤ (x2).toInt; omega) (by show (x2).toInt ≤ (7 : Int); omega) (by show (0 : Int) ≤ (x1).toInt; omega) (by show (x1).toInt ≤ (7 : Int); omega) (by show (0 : Int) ≤ (x4).toInt; omega) (by show (x4).toInt ≤ (2 : Int); omega) (by show ((m.1 187 16)).toInt = 0; omega) (by show 0 * (x2).toInt + 2 < _; omega)
        · intro c6
          have k7 := y_ner (n := 0) rfl c6
          have r8 := w.at (a := 187) (k := 16) rfl
          exact ih.2.2.1 _ _ _ _ w f (by show (0 : Int) ≤ (x2).toInt; omega) (by show (x2).toInt ≤ (7 : Int); omega) (by show (0 : Int) ≤ (x2).toInt; omega) (by show (x2).toInt ≤ (7 : Int); omega) (by show (0 : Int) ≤ (x4).toInt; omega) (by show (x4).toInt ≤ (2 : Int); omega) (by show ((m.1 187 16)).toInt = 0; omega) (by show 0 * (x2).toInt + 2 < _; omega)
      · intro c9
        have k10 := y_ner (n := 0) rfl c9
        refine ⟨?_, ?_⟩
        · intro c11
          have k12 := y_eqr (n := 0) rfl c11
          have r13 := w.at (a := 187) (k := 16) rfl
          exact ih.2.2.1 _ _ _ _ w f (by show (0 : Int) ≤ (x1).toInt; omega) (by show (x1).toInt ≤ (7 : Int); omega) (by show (0 : Int) ≤ (x1).toInt; omega) (by show (x1).toInt ≤ (7 : Int); omega) (by show (0 : Int) ≤ (x4).toInt; omega) (by show (x4).toInt ≤ (2 : Int); omega) (by show ((m.1 187 16)).toInt = 0; omega) (by show 0 * (x1).toInt + 2 < _; omega)
        · intro c14
          have k15 := y_ner (n := 0) rfl c14
          have r16 := w.at (a := 187) (k := 16) rfl
          exact ih.2.2.1 _ _ _ _ w f (by show (0 : Int) ≤ (x1).toInt; omega) (by show (x1).toInt ≤ (7 : Int); omega) (by show (0 : Int) ≤ (x2).toInt; omega) (by show (x2).toInt ≤ (7 : Int); omega) (by show (0 : Int) ≤ (x4).toInt; omega) (by show (x4).toInt ≤ (2 : Int); omega) (by show ((m.1 187 16)).toInt = 0; omega) (by show 0 * (x1).toInt + 2 < _; omega)
    · intro m x4 x8 s0 w f j1 j2 j3 j4 j5 j6 j7 hn
      refine g_X12_game_116  ?_
      refine (s_X12_artOf w (by show (0 : Int) ≤ (x8).toInt; omega) (by show (x8).toInt ≤ (7 : Int); omega) (by show (0 : Int) ≤ (s0).toInt; omega) (by show (s0).toInt ≤ (7 : Int); omega)).to ?_
      rintro _ m1 ⟨w_m1, g1, v2, rfl, p2, p3⟩
      have f_m1 : Fx (RS [20, 22, 26, 28]) m0 m1 := f.tr g1 (RS_sub rfl)
      have e4 : (m1.1 187 16).toInt = ((m.1 187 16)).toInt := congrArg _ (g1.at (a := 187) (k := 16) (by decide))
      have e5 : (m1.1 187 1).toInt = ((m.1 187 1)).toInt := congrArg _ (g1.at (a := 187) (k := 1) (by decide))
      have e6 : (m1.1 187 0).toInt = ((m.1 187 0)).toInt := congrArg _ (g1.at (a := 187) (k := 0) (by decide))
      refine ⟨v2, rfl, ?_⟩
      refine ⟨?_, ?_⟩
      · intro c7
        have k8 := y_ner (n := -1) rfl c7
        refine (s_X12_gainOf w_m1 (by show (0 : Int) ≤ (x8).toInt; omega) (by show (x8).toInt ≤ (7 : Int); omega) (by show (0 : Int) ≤ (s0).toInt; omega) (by show (s0).toInt ≤ (7 : Int); omega) (by show (0 : Int) ≤ (v2).toInt; omega) (by show (v2).toInt ≤ (3 : Int); omega)).to ?_
        rintro _ m3 ⟨w_m3, g9, v4, rfl⟩
        have f_m3 : Fx (RS [20, 22, 26, 28]) m0 m3 := f_m1.tr g9 (RS_sub rfl)
        have e10 : (m3.1 187 16).toInt = ((m1.1 187 16)).toInt := congrArg _ (g9.at (a := 187) (k := 16) (by decide))
        have e11 : (m3.1 187 1).toInt = ((m1.1 187 1)).toInt := congrArg _ (g9.at (a := 187) (k := 1) (by decide))
        have e12 : (m3.1 187 0).toInt = ((m1.1 187 0)).toInt := congrArg _ (g9.at (a := 187) (k := 0) (by decide))
        refine ⟨v4, rfl, ?_⟩
        have r13 := w_m3.at (a := 187) (k := 16) rfl
        exact ih.2.2.2 _ _ _ _ w_m3 f_m3 (by show (0 : Int) ≤ (x4).toInt; omega) (by show (x4).toInt ≤ (2 : Int); omega) (by show ((m3.1 187 16)).toInt = 0; omega) (by show 0 * (x4).toInt + 1 < _; omega)
      · intro c14
        have k15 := y_eqr (n := -1) rfl c14
        have r16 := w_m1.at (a := 187) (k := 16) rfl
        exact ih.2.2.2 _ _ _ _ w_m1 f_m1 (by show (0 : Int) ≤ (x4).toInt; omega) (by show (x4).toInt ≤ (2 : Int); omega) (by show ((m1.1 187 16)).toInt = 0; omega) (by show 0 * (x4).toInt + 1 < _; omega)
    · intro m x4 x5 x6 w f j1 j2 j3 hn
      refine g_X12_game_150  ?_
      have r1 := w.at (a := 187) (k := 16) rfl
      refine (s_X12_tell w (by show ((m.1 187 16)).toInt ≤ 15; omega)).to ?_
      rintro _ m1 ⟨w_m1, g2, rfl, p3⟩
      have f_m1 : Fx (RS [20, 22, 26, 28]) m0 m1 := f.tr g2 (RS_sub rfl)
      have p4 : (m1.1 187 16).toInt = ((m.1 187 16)).toInt + 1 := p3
      clear p3
      have e5 : (m1.1 187 1).toInt = ((m.1 187 1)).toInt := congrArg _ (g2.at (a := 187) (k := 1) (by decide))
      have e6 : (m1.1 187 0).toInt = ((m.1 187 0)).toInt := congrArg _ (g2.at (a := 187) (k := 0) (by decide))
      refine ⟨rfl, ?_⟩
      have r7 := w_m1.at (a := 187) (k := 16) rfl
      refine (s_X12_tell w_m1 (by show ((m1.1 187 16)).toInt ≤ 15; omega)).to ?_
      rintro _ m2 ⟨w_m2, g8, rfl, p9⟩
      have f_m2 : Fx (RS [20, 22, 26, 28]) m0 m2 := f_m1.tr g8 (RS_sub rfl)
      have p10 : (m2.1 187 16).toInt = ((m1.1 187 16)).toInt + 1 := p9
      clear p9
      have e11 : (m2.1 187 1).toInt = ((m1.1 187 1)).toInt := congrArg _ (g8.at (a := 187) (k := 1) (by decide))
      have e12 : (m2.1 187 0).toInt = ((m1.1 187 0)).toInt := congrArg _ (g8.at (a := 187) (k := 0) (by decide))
      refine ⟨rfl, ?_⟩
      have r13 := w_m2.at (a := 187) (k := 16) rfl
      exact ⟨w_m2, f_m2, _, rfl, (by show ((x4).toInt = -1 ∧ ((m2.1 187 16)).toInt = (m0.1 187 16).toInt) ∨ (0 ≤ (x4).toInt ∧ ((m2.1 187 16)).toInt = 2); omega)⟩
set_option maxHeartbeats 4000000 in
theorem n_X12_game {ad : Nat → Nat} {d : Nat} {m : Wm} {x1 x2 x3 : Int32} (w : WT m) : Ct ad μX12_game (d + 170) [.ref (ad 187), .int x1, .int x2, .int x3] m (fun r m' => WT m' ∧ Fx (RS [20, 22, 26, 28]) m m' ∧ ∃ v : Int32, r = some (.int v) ∧ ((v.toInt = -1 ∧ (m'.1 187 16).toInt = (m.1 187 16).toInt) ∨ (0 ≤ v.toInt ∧ (m'.1 187 16).toInt = 2))) := by
  have f : Fx (RS [20, 22, 26, 28]) m m := Fx.rf
  refine v_X12_game  ?_
  have w1 : WT (uI m 187 17 (0 : Int32)) := w.n rfl
  have f1 : Fx (RS [20, 22, 26, 28]) m (uI m 187 17 (0 : Int32)) := f.i rfl
  refine (s_X12_areTwo w1).to ?_
  rintro _ m1 ⟨w_m1, g2, v2, rfl, p4, p5, p3⟩
  have f_m1 : Fx (RS [20, 22, 26, 28]) m m1 := f1.tr g2 (RS_sub rfl)
  have p6 : (v2.toInt = 0 ∧ ((x1).toInt < 0 ∨ ((m.1 187 1)).toInt ≤ (x1).toInt ∨ (x2).toInt < 0 ∨ ((m.1 187 1)).toInt ≤ (x2).toInt ∨ (x1).toInt = (x2).toInt)) ∨ (v2.toInt = 1 ∧ 0 ≤ (x1).toInt ∧ (x1).toInt < ((m.1 187 1)).toInt ∧ 0 ≤ (x2).toInt ∧ (x2).toInt < ((m.1 187 1)).toInt ∧ (x1).toInt ≠ (x2).toInt) := p3
  clear p3
  have e7 : (m1.1 187 16).toInt = ((m.1 187 16)).toInt := congrArg _ (g2.at (a := 187) (k := 16) (by decide))
  have e8 : (m1.1 187 1).toInt = ((m.1 187 1)).toInt := congrArg _ (g2.at (a := 187) (k := 1) (by decide))
  have e9 : (m1.1 187 0).toInt = ((m.1 187 0)).toInt := congrArg _ (g2.at (a := 187) (k := 0) (by decide))
  refine ⟨v2, rfl, ?_⟩
  refine ⟨?_, ?_⟩
  · intro c10
    have k11 := y_eqr (n := 0) rfl c10
    have r12 := w_m1.at (a := 187) (k := 16) rfl
    exact ⟨w_m1, f_m1, _, rfl, (by show ((-1 : Int) = -1 ∧ ((m1.1 187 16)).toInt = (m.1 187 16).toInt) ∨ (0 ≤ (-1 : Int) ∧ ((m1.1 187 16)).toInt = 2); omega)⟩
  · intro c13
    have k14 := y_ner (n := 0) rfl c13
    have r15 := w.at (a := 187) (k := 1) rfl
    refine (s_X12_isThrown w_m1).to ?_
    rintro _ m3 ⟨w_m3, g16, v4, rfl, p17, p18⟩
    have f_m3 : Fx (RS [20, 22, 26, 28]) m m3 := f_m1.tr g16 (RS_sub rfl)
    have e19 : (m3.1 187 16).toInt = ((m1.1 187 16)).toInt := congrArg _ (g16.at (a := 187) (k := 16) (by decide))
    have e20 : (m3.1 187 1).toInt = ((m1.1 187 1)).toInt := congrArg _ (g16.at (a := 187) (k := 1) (by decide))
    have e21 : (m3.1 187 0).toInt = ((m1.1 187 0)).toInt := congrArg _ (g16.at (a := 187) (k := 0) (by decide))
    refine ⟨v4, rfl, ?_⟩
    refine ⟨?_, ?_⟩
    · intro c22
      have k23 := y_ner (n := 0) rfl c22
      refine (s_X12_winner w_m3 (by show (0 : Int) ≤ (x1).toInt; omega) (by show (x1).toInt ≤ (7 : Int); omega) (by show (0 : Int) ≤ (x2).toInt; omega) (by show (x2).toInt ≤ (7 : Int); omega)).to ?_
      rintro _ m5 ⟨w_m5, g24, v6, rfl, p25, p26⟩
      have f_m5 : Fx (RS [20, 22, 26, 28]) m m5 := f_m3.tr g24 (RS_sub rfl)
      have e27 : (m5.1 187 16).toInt = ((m3.1 187 16)).toInt := congrArg _ (g24.at (a := 187) (k := 16) (by decide))
      have e28 : (m5.1 187 1).toInt = ((m3.1 187 1)).toInt := congrArg _ (g24.at (a := 187) (k := 1) (by decide))
      have e29 : (m5.1 187 0).toInt = ((m3.1 187 0)).toInt := congrArg _ (g24.at (a := 187) (k := 0) (by decide))
      refine ⟨v6, rfl, ?_⟩
      refine ⟨?_, ?_⟩
      · intro c30
        have k31 := y_eqr (n := 2) rfl c30
        have w32 : WT (uI m5 187 16 (0 : Int32)) := w_m5.t rfl (by show (0 : Int) ≤ (0 : Int); omega) (by show (0 : Int) ≤ 16; omega)
        have f32 : Fx (RS [20, 22, 26, 28]) m (uI m5 187 16 (0 : Int32)) := f_m5.i rfl
        exact (nl_X12_game (m0 := m) 1000000).2.2.2 _ _ _ _ w32 f32 (by show (0 : Int) ≤ (v6).toInt; omega) (by show (v6).toInt ≤ (2 : Int); omega) (by show (0 : Int) = 0; omega) (by show 0 * (v6).toInt + 1 < _; omega)
      · intro c33
        have k34 := y_ner (n := 2) rfl c33
        refine ⟨?_, ?_⟩
        · intro c35
          have c36 : (m5.1 193 ((0 : Int32).toNatClampNeg)) = (3 : Int32) := c35
          have k37 := y_eqr (n := 3) rfl c36
          have w38 : WT (uI m5 187 16 (0 : Int32)) := w_m5.t rfl (by show (0 : Int) ≤ (0 : Int); omega) (by show (0 : Int) ≤ 16; omega)
          have f38 : Fx (RS [20, 22, 26, 28]) m (uI m5 187 16 (0 : Int32)) := f_m5.i rfl
          exact (nl_X12_game (m0 := m) 1000000).2.2.2 _ _ _ _ w38 f38 (by show (0 : Int) ≤ (v6).toInt; omega) (by show (v6).toInt ≤ (2 : Int); omega) (by show (0 : Int) = 0; omega) (by show 0 * (v6).toInt + 1 < _; omega)
        · intro c39
          have c40 : ¬ (m5.1 193 ((0 : Int32).toNatClampNeg)) = (3 : Int32) := c39
          have k41 := y_ner (n := 3) rfl c40
          refine ⟨?_, ?_⟩
          · intro c42
            have k43 := y_ner (n := 0) rfl c42
            have w44 : WT (uI m5 187 16 (0 : Int32)) := w_m5.t rfl (by show (0 : Int) ≤ (0 : Int); omega) (by show (0 : Int) ≤ 16; omega)
            have f44 : Fx (RS [20, 22, 26, 28]) m (uI m5 187 16 (0 : Int32)) := f_m5.i rfl
            exact (nl_X12_game (m0 := m) 1000000).1 _ _ _ _ _ w44 f44 (by show (0 : Int) ≤ (x1).toInt; omega) (by show (x1).toInt ≤ (7 : Int); omega) (by show (0 : Int) ≤ (x2).toInt; omega) (by show (x2).toInt ≤ (7 : Int); omega) (by show (0 : Int) ≤ (v6).toInt; omega) (by show (v6).toInt ≤ (2 : Int); omega) (by show (0 : Int) = 0; omega) (by show 0 * (x1).toInt + 4 < _; omega)
          · intro c45
            have k46 := y_eqr (n := 0) rfl c45
            have w47 : WT (uI m5 187 16 (0 : Int32)) := w_m5.t rfl (by show (0 : Int) ≤ (0 : Int); omega) (by show (0 : Int) ≤ 16; omega)
            have f47 : Fx (RS [20, 22, 26, 28]) m (uI m5 187 16 (0 : Int32)) := f_m5.i rfl
            exact (nl_X12_game (m0 := m) 1000000).1 _ _ _ _ _ w47 f47 (by show (0 : Int) ≤ (x1).toInt; omega) (by show (x1).toInt ≤ (7 : Int); omega) (by show (0 : Int) ≤ (x2).toInt; omega) (by show (x2).toInt ≤ (7 : Int); omega) (by show (0 : Int) ≤ (v6).toInt; omega) (by show (v6).toInt ≤ (2 : Int); omega) (by show (0 : Int) = 0; omega) (by show 0 * (x1).toInt + 4 < _; omega)
    · intro c48
      have k49 := y_eqr (n := 0) rfl c48
      have r50 := w_m3.at (a := 187) (k := 16) rfl
      exact ⟨w_m3, f_m3, _, rfl, (by show ((-1 : Int) = -1 ∧ ((m3.1 187 16)).toInt = (m.1 187 16).toInt) ∨ (0 ≤ (-1 : Int) ∧ ((m3.1 187 16)).toInt = 2); omega)⟩
set_option maxHeartbeats 4000000 in
theorem n_X12_play {ad : Nat → Nat} {d : Nat} {m : Wm} {x1 x2 x3 : Int32} (w : WT m) : Ct ad μX12_play (d + 171) [.ref (ad 187), .int x1, .int x2, .int x3] m (fun r m' => WT m' ∧ Fx (RS [20, 22, 24, 26, 28, 29, 49]) m m' ∧ ∃ v : Int32, r = some (.int v) ∧ ((v.toInt = -1 ∧ (m'.1 187 16).toInt = (m.1 187 16).toInt) ∨ (0 ≤ v.toInt ∧ (m'.1 187 16).toInt = 2))) := by
  have f : Fx (RS [20, 22, 24, 26, 28, 29, 49]) m m := Fx.rf
  refine v_X12_play  ?_
  have w1 : WT (uI m 187 17 (0 : Int32)) := w.n rfl
  have f1 : Fx (RS [20, 22, 24, 26, 28, 29, 49]) m (uI m 187 17 (0 : Int32)) := f.i rfl
  refine (s_X12_areTwo w1).to ?_
  rintro _ m1 ⟨w_m1, g2, v2, rfl, p4, p5, p3⟩
  have f_m1 : Fx (RS [20, 22, 24, 26, 28, 29, 49]) m m1 := f1.tr g2 (RS_sub rfl)
  have p6 : (v2.toInt = 0 ∧ ((x1).toInt < 0 ∨ ((m.1 187 1)).toInt ≤ (x1).toInt ∨ (x2).toInt < 0 ∨ ((m.1 187 1)).toInt ≤ (x2).toInt ∨ (x1).toInt = (x2).toInt)) ∨ (v2.toInt = 1 ∧ 0 ≤ (x1).toInt ∧ (x1).toInt < ((m.1 187 1)).toInt ∧ 0 ≤ (x2).toInt ∧ (x2).toInt < ((m.1 187 1)).toInt ∧ (x1).toInt ≠ (x2).toInt) := p3
  clear p3
  have e7 : (m1.1 187 16).toInt = ((m.1 187 16)).toInt := congrArg _ (g2.at (a := 187) (k := 16) (by decide))
  have e8 : (m1.1 187 1).toInt = ((m.1 187 1)).toInt := congrArg _ (g2.at (a := 187) (k := 1) (by decide))
  have e9 : (m1.1 187 0).toInt = ((m.1 187 0)).toInt := congrArg _ (g2.at (a := 187) (k := 0) (by decide))
  refine ⟨v2, rfl, ?_⟩
  refine ⟨?_, ?_⟩
  · intro c10
    have k11 := y_eqr (n := 0) rfl c10
    have r12 := w_m1.at (a := 187) (k := 16) rfl
    exact ⟨w_m1, f_m1, _, rfl, (by show ((-1 : Int) = -1 ∧ ((m1.1 187 16)).toInt = (m.1 187 16).toInt) ∨ (0 ≤ (-1 : Int) ∧ ((m1.1 187 16)).toInt = 2); omega)⟩
  · intro c13
    have k14 := y_ner (n := 0) rfl c13
    have r15 := w.at (a := 187) (k := 1) rfl
    refine (s_X12_isThrown w_m1).to ?_
    rintro _ m3 ⟨w_m3, g16, v4, rfl, p17, p18⟩
    have f_m3 : Fx (RS [20, 22, 24, 26, 28, 29, 49]) m m3 := f_m1.tr g16 (RS_sub rfl)
    have e19 : (m3.1 187 16).toInt = ((m1.1 187 16)).toInt := congrArg _ (g16.at (a := 187) (k := 16) (by decide))
    have e20 : (m3.1 187 1).toInt = ((m1.1 187 1)).toInt := congrArg _ (g16.at (a := 187) (k := 1) (by decide))
    have e21 : (m3.1 187 0).toInt = ((m1.1 187 0)).toInt := congrArg _ (g16.at (a := 187) (k := 0) (by decide))
    refine ⟨v4, rfl, ?_⟩
    refine ⟨?_, ?_⟩
    · intro c22
      have k23 := y_ner (n := 0) rfl c22
      refine (s_X12_remember w_m3).to ?_
      rintro _ m5 ⟨w_m5, g24, rfl⟩
      have f_m5 : Fx (RS [20, 22, 24, 26, 28, 29, 49]) m m5 := f_m3.tr g24 (RS_sub rfl)
      have e25 : (m5.1 187 16).toInt = ((m3.1 187 16)).toInt := congrArg _ (g24.at (a := 187) (k := 16) (by decide))
      have e26 : (m5.1 187 1).toInt = ((m3.1 187 1)).toInt := congrArg _ (g24.at (a := 187) (k := 1) (by decide))
      have e27 : (m5.1 187 0).toInt = ((m3.1 187 0)).toInt := congrArg _ (g24.at (a := 187) (k := 0) (by decide))
      refine ⟨rfl, ?_⟩
      refine (s_X12_goGame w_m5 (by show (0 : Int) ≤ (x1).toInt; omega) (by show (x1).toInt ≤ (7 : Int); omega) (by show (0 : Int) ≤ (x2).toInt; omega) (by show (x2).toInt ≤ (7 : Int); omega)).to ?_
      rintro _ m6 ⟨w_m6, g28, v7, rfl, p29, p30⟩
      have f_m6 : Fx (RS [20, 22, 24, 26, 28, 29, 49]) m m6 := f_m5.tr g28 (RS_sub rfl)
      have e31 : (m6.1 187 16).toInt = ((m5.1 187 16)).toInt := congrArg _ (g28.at (a := 187) (k := 16) (by decide))
      have e32 : (m6.1 187 1).toInt = ((m5.1 187 1)).toInt := congrArg _ (g28.at (a := 187) (k := 1) (by decide))
      have e33 : (m6.1 187 0).toInt = ((m5.1 187 0)).toInt := congrArg _ (g28.at (a := 187) (k := 0) (by decide))
      refine ⟨v7, rfl, ?_⟩
      refine ⟨?_, ?_⟩
      · exact vpi (by omega) (by omega)
      · have w34 : WT (uI m6 187 16 (0 : Int32)) := w_m6.t rfl (by show (0 : Int) ≤ (0 : Int); omega) (by show (0 : Int) ≤ 16; omega)
        have f34 : Fx (RS [20, 22, 24, 26, 28, 29, 49]) m (uI m6 187 16 (0 : Int32)) := f_m6.i rfl
        refine (s_X12_tell w34 (by show (0 : Int) ≤ 15; omega)).to ?_
        rintro _ m8 ⟨w_m8, g35, rfl, p36⟩
        have f_m8 : Fx (RS [20, 22, 24, 26, 28, 29, 49]) m m8 := f34.tr g35 (RS_sub rfl)
        have p37 : (m8.1 187 16).toInt = (0 : Int) + 1 := p36
        clear p36
        have e38 : (m8.1 187 1).toInt = ((m6.1 187 1)).toInt := congrArg _ (g35.at (a := 187) (k := 1) (by decide))
        have e39 : (m8.1 187 0).toInt = ((m6.1 187 0)).toInt := congrArg _ (g35.at (a := 187) (k := 0) (by decide))
        refine ⟨rfl, ?_⟩
        refine ⟨?_, ?_⟩
        · exact vpi (by omega) (by omega)
        · have r40 := w_m8.at (a := 187) (k := 16) rfl
          refine (s_X12_tell w_m8 (by show ((m8.1 187 16)).toInt ≤ 15; omega)).to ?_
          rintro _ m9 ⟨w_m9, g41, rfl, p42⟩
          have f_m9 : Fx (RS [20, 22, 24, 26, 28, 29, 49]) m m9 := f_m8.tr g41 (RS_sub rfl)
          have p43 : (m9.1 187 16).toInt = ((m8.1 187 16)).toInt + 1 := p42
          clear p42
          have e44 : (m9.1 187 1).toInt = ((m8.1 187 1)).toInt := congrArg _ (g41.at (a := 187) (k := 1) (by decide))
          have e45 : (m9.1 187 0).toInt = ((m8.1 187 0)).toInt := congrArg _ (g41.at (a := 187) (k := 0) (by decide))
          refine ⟨rfl, ?_⟩
          have r46 := w_m9.at (a := 187) (k := 16) rfl
          exact ⟨w_m9, f_m9, _, rfl, (by show ((v7).toInt = -1 ∧ ((m9.1 187 16)).toInt = (m.1 187 16).toInt) ∨ (0 ≤ (v7).toInt ∧ ((m9.1 187 16)).toInt = 2); omega)⟩
    · intro c47
      have k48 := y_eqr (n := 0) rfl c47
      have r49 := w_m3.at (a := 187) (k := 16) rfl
      exact ⟨w_m3, f_m3, _, rfl, (by show ((-1 : Int) = -1 ∧ ((m3.1 187 16)).toInt = (m.1 187 16).toInt) ∨ (0 ≤ (-1 : Int) ∧ ((m3.1 187 16)).toInt = 2); omega)⟩
set_option maxHeartbeats 4000000 in
theorem nl_X12_judge {ad : Nat → Nat} {d : Nat} {m0 : Wm}  : ∀ n : Nat, (∀ (m : Wm) (x1 x2 x3 x4 x5 : Int32), WT m → Fx (RS [20, 22, 24, 26, 28, 30, 49]) m0 m → (0 : Int) ≤ x1.toInt → x1.toInt ≤ (3 : Int) → (0 : Int) ≤ x5.toInt → x5.toInt ≤ (3 : Int) → (x4.toInt ≠ -1) → 4 - x5.toInt < (n : Int) → AW ad E0 μX12_judge (d + 171) (fun r m' => WT m' ∧ Fx (RS [20, 22, 24, 26, 28, 30, 49]) m0 m' ∧ ∃ v : Int32, r = some (.int v) ∧ ((v.toInt = -1 ∧ (m'.1 187 16).toInt = (m0.1 187 16).toInt) ∨ (v.toInt ≠ -1 ∧ (m'.1 187 16).toInt = 1))) 40 [(0, .ref (ad 187)), (1, .int x1), (2, .int x2), (3, .int x3), (4, .int x4), (5, .int x5)] [] m) ∧ (∀ (m : Wm) (x3 x4 : Int32), WT m → Fx (RS [20, 22, 24, 26, 28, 30, 49]) m0 m → (x4.toInt ≠ -1) → 0 * x3.toInt < (n : Int) → AW ad E0 μX12_judge (d + 171) (fun r m' => WT m' ∧ Fx (RS [20, 22, 24, 26, 28, 30, 49]) m0 m' ∧ ∃ v : Int32, r = some (.int v) ∧ ((v.toInt = -1 ∧ (m'.1 187 16).toInt = (m0.1 187 16).toInt) ∨ (v.toInt ≠ -1 ∧ (m'.1 187 16).toInt = 1))) 138 [(0, .ref (ad 187)), (3, .int x3), (4, .int x4)] [] m) := by
  intro n
  induction n with
  | zero =>
    refine ⟨?_, ?_⟩ <;> intros <;> exfalso <;> omega
  | succ n ih =>
    refine ⟨?_, ?_⟩
    · intro m x1 x2 x3 x4 x5 w f j1 j2 j3 j4 j5 hn
      refine g_X12_judge_40  ?_
      refine ⟨?_, ?_⟩
      · intro c1
        have k2 := z_le c1
        exact ih.2 _ _ _ w f (by show (x4).toInt ≠ -1; omega) (by show 0 * (x3).toInt < _; omega)
      · intro c3
        have k4 := z_nle c3
        refine ⟨?_, ?_⟩
        · intro c5
          have k6 := y_ner (n := -2) rfl c5
          exact ih.2 _ _ _ w f (by show (x4).toInt ≠ -1; omega) (by show 0 * (x3).toInt < _; omega)
        · intro c7
          have k8 := y_eqr (n := -2) rfl c7
          refine ⟨?_, ?_⟩
          · intro c9
            have t10 := t_and1023 (x2 >>> (((10 : Int32) * x5) &&& 31))
            have t11 := t_div (x := ((x2 >>> (((10 : Int32) * x5) &&& 31)) &&& (1023 : Int32))) (y := (100 : Int32)) (c := 100) rfl (by decide) (by decide) (by omega)
            have k12 := y_ltl (n := 2) rfl c9
            have t13 := ti_addc (x := x5) (y := (1 : Int32)) (c := 1) rfl (by omega)
            exact ih.1 _ _ _ _ _ _ w f (by show (0 : Int) ≤ (x1).toInt; omega) (by show (x1).toInt ≤ (3 : Int); omega) (by show (0 : Int) ≤ ((x5 + (1 : Int32))).toInt; omega) (by show ((x5 + (1 : Int32))).toInt ≤ (3 : Int); omega) (by show (x5).toInt ≠ -1; omega) (by show 4 - ((x5 + (1 : Int32))).toInt < _; omega)
          · intro c14
            have t15 := t_and1023 (x2 >>> (((10 : Int32) * x5) &&& 31))
            have t16 := t_div (x := ((x2 >>> (((10 : Int32) * x5) &&& 31)) &&& (1023 : Int32))) (y := (100 : Int32)) (c := 100) rfl (by decide) (by decide) (by omega)
            have k17 := y_nltl (n := 2) rfl c14
            refine (s_X12_areTwo w).to ?_
            rintro _ m1 ⟨w_m1, g18, v2, rfl, p20, p21, p19⟩
            have f_m1 : Fx (RS [20, 22, 24, 26, 28, 30, 49]) m0 m1 := f.tr g18 (RS_sub rfl)
            have p22 : (v2.toInt = 0 ∧ ((((((x2 >>> (((10 : Int32) * x5) &&& 31)) &&& (1023 : Int32)) / (10 : Int32)) - (((((x2 >>> (((10 : Int32) * x5) &&& 31)) &&& (1023 : Int32)) / (10 : Int32)) / (10 : Int32)) * (10 : Int32)))).toInt < 0 ∨ ((m.1 187 1)).toInt ≤ (((((x2 >>> (((10 : Int32) * x5) &&& 31)) &&& (1023 : Int32)) / (10 : Int32)) - (((((x2 >>> (((10 : Int32) * x5) &&& 31)) &&& (1023 : Int32)) / (10 : Int32)) / (10 : Int32)) * (10 : Int32)))).toInt ∨ ((((x2 >>> (((10 : Int32) * x5) &&& 31)) &&& (1023 : Int32)) - ((((x2 >>> (((10 : Int32) * x5) &&& 31)) &&& (1023 : Int32)) / (10 : Int32)) * (10 : Int32)))).toInt < 0 ∨ ((m.1 187 1)).toInt ≤ ((((x2 >>> (((10 : Int32) * x5) &&& 31)) &&& (1023 : Int32)) - ((((x2 >>> (((10 : Int32) * x5) &&& 31)) &&& (1023 : Int32)) / (10 : Int32)) * (10 : Int32)))).toInt ∨ (((((x2 >>> (((10 : Int32) * x5) &&& 31)) &&& (1023 : Int32)) / (10 : Int32)) - (((((x2 >>> (((10 : Int32) * x5) &&& 31)) &&& (1023 : Int32)) / (10 : Int32)) / (10 : Int32)) * (10 : Int32)))).toInt = ((((x2 >>> (((10 : Int32) * x5) &&& 31)) &&& (1023 : Int32)) - ((((x2 >>> (((10 : Int32) * x5) &&& 31)) &&& (1023 : Int32)) / (10 : Int32)) * (10 : Int32)))).toInt)) ∨ (v2.toInt = 1 ∧ 0 ≤ (((((x2 >>> (((10 : Int32) * x5) &&& 31)) &&& (1023 : Int32)) / (10 : Int32)) - (((((x2 >>> (((10 : Int32) * x5) &&& 31)) &&& (1023 : Int32)) / (10 : Int32)) / (10 : Int32)) * (10 : Int32)))).toInt ∧ (((((x2 >>> (((10 : Int32) * x5) &&& 31)) &&& (1023 : Int32)) / (10 : Int32)) - (((((x2 >>> (((10 : Int32) * x5) &&& 31)) &&& (1023 : Int32)) / (10 : Int32)) / (10 : Int32)) * (10 : Int32)))).toInt < ((m.1 187 1)).toInt ∧ 0 ≤ ((((x2 >>> (((10 : Int32) * x5) &&& 31)) &&& (1023 : Int32)) - ((((x2 >>> (((10 : Int32) * x5) &&& 31)) &&& (1023 : Int32)) / (10 : Int32)) * (10 : Int32)))).toInt ∧ ((((x2 >>> (((10 : Int32) * x5) &&& 31)) &&& (1023 : Int32)) - ((((x2 >>> (((10 : Int32) * x5) &&& 31)) &&& (1023 : Int32)) / (10 : Int32)) * (10 : Int32)))).toInt < ((m.1 187 1)).toInt ∧ (((((x2 >>> (((10 : Int32) * x5) &&& 31)) &&& (1023 : Int32)) / (10 : Int32)) - (((((x2 >>> (((10 : Int32) * x5) &&& 31)) &&& (1023 : Int32)) / (10 : Int32)) / (10 : Int32)) * (10 : Int32)))).toInt ≠ ((((x2 >>> (((10 : Int32) * x5) &&& 31)) &&& (1023 : Int32)) - ((((x2 >>> (((10 : Int32) * x5) &&& 31)) &&& (1023 : Int32)) / (10 : Int32)) * (10 : Int32)))).toInt) := p19
            clear p19
            have e23 : (m1.1 187 16).toInt = ((m.1 187 16)).toInt := congrArg _ (g18.at (a := 187) (k := 16) (by decide))
            have e24 : (m1.1 187 1).toInt = ((m.1 187 1)).toInt := congrArg _ (g18.at (a := 187) (k := 1) (by decide))
            have e25 : (m1.1 187 0).toInt = ((m.1 187 0)).toInt := congrArg _ (g18.at (a := 187) (k := 0) (by decide))
            refine ⟨v2, rfl, ?_⟩
            refine ⟨?_, ?_⟩
            · intro c26
              have k27 := y_eqr (n := 0) rfl c26
              have t28 := ti_addc (x := x5) (y := (1 : Int32)) (c := 1) rfl (by omega)
              exact ih.1 _ _ _ _ _ _ w_m1 f_m1 (by show (0 : Int) ≤ (x1).toInt; omega) (by show (x1).toInt ≤ (3 : Int); omega) (by show (0 : Int) ≤ ((x5 + (1 : Int32))).toInt; omega) (by show ((x5 + (1 : Int32))).toInt ≤ (3 : Int); omega) (by show (x5).toInt ≠ -1; omega) (by show 4 - ((x5 + (1 : Int32))).toInt < _; omega)
            · intro c29
              have k30 := y_ner (n := 0) rfl c29
              have r31 := w.at (a := 187) (k := 1) rfl
              refine ⟨?_, ?_⟩
              · intro c32
                have k33 := z_le c32
                refine (s_X12_goGame w_m1 (by show (0 : Int) ≤ (((((x2 >>> (((10 : Int32) * x5) &&& 31)) &&& (1023 : Int32)) / (10 : Int32)) - (((((x2 >>> (((10 : Int32) * x5) &&& 31)) &&& (1023 : Int32)) / (10 : Int32)) / (10 : Int32)) * (10 : Int32)))).toInt; omega) (by show (((((x2 >>> (((10 : Int32) * x5) &&& 31)) &&& (1023 : Int32)) / (10 : Int32)) - (((((x2 >>> (((10 : Int32) * x5) &&& 31)) &&& (1023 : Int32)) / (10 : Int32)) / (10 : Int32)) * (10 : Int32)))).toInt ≤ (7 : Int); omega) (by show (0 : Int) ≤ ((((x2 >>> (((10 : Int32) * x5) &&& 31)) &&& (1023 : Int32)) - ((((x2 >>> (((10 : Int32) * x5) &&& 31)) &&& (1023 : Int32)) / (10 : Int32)) * (10 : Int32)))).toInt; omega) (by show ((((x2 >>> (((10 : Int32) * x5) &&& 31)) &&& (1023 : Int32)) - ((((x2 >>> (((10 : Int32) * x5) &&& 31)) &&& (1023 : Int32)) / (10 : Int32)) * (10 : Int32)))).toInt ≤ (7 : Int); omega)).to ?_
                rintro _ m3 ⟨w_m3, g34, v4, rfl, p35, p36⟩
                have f_m3 : Fx (RS [20, 22, 24, 26, 28, 30, 49]) m0 m3 := f_m1.tr g34 (RS_sub rfl)
                have e37 : (m3.1 187 16).toInt = ((m1.1 187 16)).toInt := congrArg _ (g34.at (a := 187) (k := 16) (by decide))
                have e38 : (m3.1 187 1).toInt = ((m1.1 187 1)).toInt := congrArg _ (g34.at (a := 187) (k := 1) (by decide))
                have e39 : (m3.1 187 0).toInt = ((m1.1 187 0)).toInt := congrArg _ (g34.at (a := 187) (k := 0) (by decide))
                refine ⟨v4, rfl, ?_⟩
                have t40 := ti_addc (x := x5) (y := (1 : Int32)) (c := 1) rfl (by omega)
                exact ih.1 _ _ _ _ _ _ w_m3 f_m3 (by show (0 : Int) ≤ (x1).toInt; omega) (by show (x1).toInt ≤ (3 : Int); omega) (by show (0 : Int) ≤ ((x5 + (1 : Int32))).toInt; omega) (by show ((x5 + (1 : Int32))).toInt ≤ (3 : Int); omega) (by show (x4).toInt ≠ -1; omega) (by show 4 - ((x5 + (1 : Int32))).toInt < _; omega)
              · intro c41
                have k42 := z_nle c41
                have t43 := ti_addc (x := x5) (y := (1 : Int32)) (c := 1) rfl (by omega)
                exact ih.1 _ _ _ _ _ _ w_m1 f_m1 (by show (0 : Int) ≤ (x1).toInt; omega) (by show (x1).toInt ≤ (3 : Int); omega) (by show (0 : Int) ≤ ((x5 + (1 : Int32))).toInt; omega) (by show ((x5 + (1 : Int32))).toInt ≤ (3 : Int); omega) (by show (x5).toInt ≠ -1; omega) (by show 4 - ((x5 + (1 : Int32))).toInt < _; omega)
    · intro m x3 x4 w f j1 hn
      refine g_X12_judge_138  ?_
      refine (s_X12_sumOfAll w).to ?_
      rintro _ m1 ⟨w_m1, g1, v2, rfl⟩
      have f_m1 : Fx (RS [20, 22, 24, 26, 28, 30, 49]) m0 m1 := f.tr g1 (RS_sub rfl)
      have e2 : (m1.1 187 16).toInt = ((m.1 187 16)).toInt := congrArg _ (g1.at (a := 187) (k := 16) (by decide))
      have e3 : (m1.1 187 1).toInt = ((m.1 187 1)).toInt := congrArg _ (g1.at (a := 187) (k := 1) (by decide))
      have e4 : (m1.1 187 0).toInt = ((m.1 187 0)).toInt := congrArg _ (g1.at (a := 187) (k := 0) (by decide))
      refine ⟨v2, rfl, ?_⟩
      refine (s_X12_bring_202 w_m1 (by show (0 : Int) ≤ (0 : Int); omega) (by show (0 : Int) ≤ (0 : Int); omega)).to ?_
      rintro _ m3 ⟨w_m3, g5, rfl⟩
      have f_m3 : Fx (RS [20, 22, 24, 26, 28, 30, 49]) m0 m3 := f_m1.tr g5 (RS_sub rfl)
      have e6 : (m3.1 187 16).toInt = ((m1.1 187 16)).toInt := congrArg _ (g5.at (a := 187) (k := 16) (by decide))
      have e7 : (m3.1 187 1).toInt = ((m1.1 187 1)).toInt := congrArg _ (g5.at (a := 187) (k := 1) (by decide))
      have e8 : (m3.1 187 0).toInt = ((m1.1 187 0)).toInt := congrArg _ (g5.at (a := 187) (k := 0) (by decide))
      refine ⟨rfl, ?_⟩
      have w9 : WT (uI m3 187 16 (0 : Int32)) := w_m3.t rfl (by show (0 : Int) ≤ (0 : Int); omega) (by show (0 : Int) ≤ 16; omega)
      have f9 : Fx (RS [20, 22, 24, 26, 28, 30, 49]) m0 (uI m3 187 16 (0 : Int32)) := f_m3.i rfl
      refine (s_X12_tell w9 (by show (0 : Int) ≤ 15; omega)).to ?_
      rintro _ m4 ⟨w_m4, g10, rfl, p11⟩
      have f_m4 : Fx (RS [20, 22, 24, 26, 28, 30, 49]) m0 m4 := f9.tr g10 (RS_sub rfl)
      have p12 : (m4.1 187 16).toInt = (0 : Int) + 1 := p11
      clear p11
      have e13 : (m4.1 187 1).toInt = ((m3.1 187 1)).toInt := congrArg _ (g10.at (a := 187) (k := 1) (by decide))
      have e14 : (m4.1 187 0).toInt = ((m3.1 187 0)).toInt := congrArg _ (g10.at (a := 187) (k := 0) (by decide))
      refine ⟨rfl, ?_⟩
      have r15 := w_m4.at (a := 187) (k := 16) rfl
      exact ⟨w_m4, f_m4, _, rfl, (by show ((x4).toInt = -1 ∧ ((m4.1 187 16)).toInt = (m0.1 187 16).toInt) ∨ ((x4).toInt ≠ -1 ∧ ((m4.1 187 16)).toInt = 1); omega)⟩
set_option maxHeartbeats 4000000 in
theorem n_X12_judge {ad : Nat → Nat} {d : Nat} {m : Wm} {x1 x2 : Int32} (w : WT m) : Ct ad μX12_judge (d + 171) [.ref (ad 187), .int x1, .int x2] m (fun r m' => WT m' ∧ Fx (RS [20, 22, 24, 26, 28, 30, 49]) m m' ∧ ∃ v : Int32, r = some (.int v) ∧ ((v.toInt = -1 ∧ (m'.1 187 16).toInt = (m.1 187 16).toInt) ∨ (v.toInt ≠ -1 ∧ (m'.1 187 16).toInt = 1))) := by
  have f : Fx (RS [20, 22, 24, 26, 28, 30, 49]) m m := Fx.rf
  refine v_X12_judge  ?_
  have w1 : WT (uI m 187 17 (0 : Int32)) := w.n rfl
  have f1 : Fx (RS [20, 22, 24, 26, 28, 30, 49]) m (uI m 187 17 (0 : Int32)) := f.i rfl
  refine (s_X12_in (x := x1) (lo := (0 : Int32)) (hi := (3 : Int32)) w1 rfl rfl).to ?_
  rintro _ m1 ⟨w_m1, g2, v2, rfl, p4, p5, p3⟩
  have f_m1 : Fx (RS [20, 22, 24, 26, 28, 30, 49]) m m1 := f1.tr g2 (RS_sub rfl)
  have p6 : (v2.toInt = 0 ∧ ((x1).toInt < (0 : Int) ∨ (3 : Int) < (x1).toInt)) ∨ (v2.toInt = 1 ∧ (0 : Int) ≤ (x1).toInt ∧ (x1).toInt ≤ (3 : Int)) := p3
  clear p3
  have e7 : (m1.1 187 16).toInt = ((m.1 187 16)).toInt := congrArg _ (g2.at (a := 187) (k := 16) (by decide))
  have e8 : (m1.1 187 1).toInt = ((m.1 187 1)).toInt := congrArg _ (g2.at (a := 187) (k := 1) (by decide))
  have e9 : (m1.1 187 0).toInt = ((m.1 187 0)).toInt := congrArg _ (g2.at (a := 187) (k := 0) (by decide))
  refine ⟨v2, rfl, ?_⟩
  refine ⟨?_, ?_⟩
  · intro c10
    have k11 := y_ner (n := 0) rfl c10
    refine (s_X12_lay_202 w_m1 (by show (0 : Int) ≤ (0 : Int); omega) (by show (0 : Int) ≤ (0 : Int); omega)).to ?_
    rintro _ m3 ⟨w_m3, g12, rfl⟩
    have f_m3 : Fx (RS [20, 22, 24, 26, 28, 30, 49]) m m3 := f_m1.tr g12 (RS_sub rfl)
    have e13 : (m3.1 187 16).toInt = ((m1.1 187 16)).toInt := congrArg _ (g12.at (a := 187) (k := 16) (by decide))
    have e14 : (m3.1 187 1).toInt = ((m1.1 187 1)).toInt := congrArg _ (g12.at (a := 187) (k := 1) (by decide))
    have e15 : (m3.1 187 0).toInt = ((m1.1 187 0)).toInt := congrArg _ (g12.at (a := 187) (k := 0) (by decide))
    refine ⟨rfl, ?_⟩
    refine (s_X12_sumOfAll w_m3).to ?_
    rintro _ m4 ⟨w_m4, g16, v5, rfl⟩
    have f_m4 : Fx (RS [20, 22, 24, 26, 28, 30, 49]) m m4 := f_m3.tr g16 (RS_sub rfl)
    have e17 : (m4.1 187 16).toInt = ((m3.1 187 16)).toInt := congrArg _ (g16.at (a := 187) (k := 16) (by decide))
    have e18 : (m4.1 187 1).toInt = ((m3.1 187 1)).toInt := congrArg _ (g16.at (a := 187) (k := 1) (by decide))
    have e19 : (m4.1 187 0).toInt = ((m3.1 187 0)).toInt := congrArg _ (g16.at (a := 187) (k := 0) (by decide))
    refine ⟨v5, rfl, ?_⟩
    exact (nl_X12_judge (m0 := m) 1000000).1 _ _ _ _ _ _ w_m4 f_m4 (by show (0 : Int) ≤ (x1).toInt; omega) (by show (x1).toInt ≤ (3 : Int); omega) (by show (0 : Int) ≤ (0 : Int); omega) (by show (0 : Int) ≤ (3 : Int); omega) (by show (-2 : Int) ≠ -1; omega) (by show 4 - (0 : Int) < _; omega)
  · intro c20
    have k21 := y_eqr (n := 0) rfl c20
    have r22 := w_m1.at (a := 187) (k := 16) rfl
    exact ⟨w_m1, f_m1, _, rfl, (by show ((-1 : Int) = -1 ∧ ((m1.1 187 16)).toInt = (m.1 187 16).toInt) ∨ ((-1 : Int) ≠ -1 ∧ ((m1.1 187 16)).toInt = 1); omega)⟩
set_option maxHeartbeats 4000000 in
theorem n_X12_rounds {ad : Nat → Nat} {d : Nat} {m : Wm} {x1 : Int32} (w : WT m) : Ct ad μX12_rounds (d + 172) [.ref (ad 187), .int x1] m (fun r m' => WT m' ∧ Fx (RS [20, 22, 24, 26, 28, 29, 31, 49, 52]) m m' ∧ ∃ v : Int32, r = some (.int v) ∧ ((m'.1 187 11).toInt = (m.1 187 11).toInt) ∧ ((m'.1 187 10).toInt = (m.1 187 10).toInt) ∧ ((v.toInt = -1 ∧ (m'.1 187 16).toInt = (m.1 187 16).toInt) ∨ (0 ≤ v.toInt ∧ (m'.1 187 16).toInt = 2))) := by
  have f : Fx (RS [20, 22, 24, 26, 28, 29, 31, 49, 52]) m m := Fx.rf
  refine v_X12_rounds  ?_
  have w1 : WT (uI m 187 17 (0 : Int32)) := w.n rfl
  have f1 : Fx (RS [20, 22, 24, 26, 28, 29, 31, 49, 52]) m (uI m 187 17 (0 : Int32)) := f.i rfl
  refine (s_X12_in (x := x1) (lo := (0 : Int32)) (hi := (200 : Int32)) w1 rfl rfl).to ?_
  rintro _ m1 ⟨w_m1, g2, v2, rfl, p4, p5, p3⟩
  have f_m1 : Fx (RS [20, 22, 24, 26, 28, 29, 31, 49, 52]) m m1 := f1.tr g2 (RS_sub rfl)
  have p6 : (v2.toInt = 0 ∧ ((x1).toInt < (0 : Int) ∨ (200 : Int) < (x1).toInt)) ∨ (v2.toInt = 1 ∧ (0 : Int) ≤ (x1).toInt ∧ (x1).toInt ≤ (200 : Int)) := p3
  clear p3
  have e7 : (m1.1 187 11).toInt = ((m.1 187 11)).toInt := congrArg _ (g2.at (a := 187) (k := 11) (by decide))
  have e8 : (m1.1 187 10).toInt = ((m.1 187 10)).toInt := congrArg _ (g2.at (a := 187) (k := 10) (by decide))
  have e9 : (m1.1 187 16).toInt = ((m.1 187 16)).toInt := congrArg _ (g2.at (a := 187) (k := 16) (by decide))
  have e10 : (m1.1 187 1).toInt = ((m.1 187 1)).toInt := congrArg _ (g2.at (a := 187) (k := 1) (by decide))
  have e11 : (m1.1 187 0).toInt = ((m.1 187 0)).toInt := congrArg _ (g2.at (a := 187) (k := 0) (by decide))
  have e12 : (m1.1 187 32).toInt = ((m.1 187 32)).toInt := congrArg _ (g2.at (a := 187) (k := 32) (by decide))
  refine ⟨v2, rfl, ?_⟩
  refine ⟨?_, ?_⟩
  · intro c13
    have k14 := y_eqr (n := 0) rfl c13
    have r15 := w_m1.at (a := 187) (k := 11) rfl
    have r16 := w_m1.at (a := 187) (k := 10) rfl
    have r17 := w_m1.at (a := 187) (k := 16) rfl
    exact ⟨w_m1, f_m1, _, rfl, (by show ((m1.1 187 11)).toInt = (m.1 187 11).toInt; omega), (by show ((m1.1 187 10)).toInt = (m.1 187 10).toInt; omega), (by show ((-1 : Int) = -1 ∧ ((m1.1 187 16)).toInt = (m.1 187 16).toInt) ∨ (0 ≤ (-1 : Int) ∧ ((m1.1 187 16)).toInt = 2); omega)⟩
  · intro c18
    have k19 := y_ner (n := 0) rfl c18
    refine ⟨?_, ?_⟩
    · intro c20
      have r21 := w_m1.at (a := 187) (k := 11) rfl
      have k22 := y_ner (n := 0) rfl c20
      refine (n_X12_goRounds w_m1 (by show (0 : Int) ≤ (x1).toInt; omega) (by show (x1).toInt ≤ (200 : Int); omega) (by show 1 ≤ ((m1.1 187 11)).toInt; omega)).to ?_
      rintro _ m3 ⟨w_m3, g23, rfl, p24⟩
      have f_m3 : Fx (RS [20, 22, 24, 26, 28, 29, 31, 49, 52]) m m3 := f_m1.tr g23 (RS_sub rfl)
      have p25 : 0 ≤ (m3.1 187 32).toInt := p24
      clear p24
      have e26 : (m3.1 187 11).toInt = ((m1.1 187 11)).toInt := congrArg _ (g23.at (a := 187) (k := 11) (by decide))
      have e27 : (m3.1 187 10).toInt = ((m1.1 187 10)).toInt := congrArg _ (g23.at (a := 187) (k := 10) (by decide))
      have e28 : (m3.1 187 16).toInt = ((m1.1 187 16)).toInt := congrArg _ (g23.at (a := 187) (k := 16) (by decide))
      have e29 : (m3.1 187 1).toInt = ((m1.1 187 1)).toInt := congrArg _ (g23.at (a := 187) (k := 1) (by decide))
      have e30 : (m3.1 187 0).toInt = ((m1.1 187 0)).toInt := congrArg _ (g23.at (a := 187) (k := 0) (by decide))
      refine ⟨rfl, ?_⟩
      refine ⟨?_, ?_⟩
      · have r31 := w_m3.at (a := 187) (k := 11) rfl
        first | assumption | (show ¬ (m3.1 187 11) = (0 : Int32); exact y_nn (n := 0) rfl (by omega))
      · have w32 : WT (uI m3 187 12 (((m3.1 187 12) + x1) - ((((m3.1 187 12) + x1) / (m3.1 187 11)) * (m3.1 187 11)))) := w_m3.n rfl
        have f32 : Fx (RS [20, 22, 24, 26, 28, 29, 31, 49, 52]) m (uI m3 187 12 (((m3.1 187 12) + x1) - ((((m3.1 187 12) + x1) / (m3.1 187 11)) * (m3.1 187 11)))) := f_m3.i rfl
        have w33 : WT (uI (uI m3 187 12 (((m3.1 187 12) + x1) - ((((m3.1 187 12) + x1) / (m3.1 187 11)) * (m3.1 187 11)))) 187 16 (0 : Int32)) := w32.t rfl (by show (0 : Int) ≤ (0 : Int); omega) (by show (0 : Int) ≤ 16; omega)
        have f33 : Fx (RS [20, 22, 24, 26, 28, 29, 31, 49, 52]) m (uI (uI m3 187 12 (((m3.1 187 12) + x1) - ((((m3.1 187 12) + x1) / (m3.1 187 11)) * (m3.1 187 11)))) 187 16 (0 : Int32)) := f32.i rfl
        refine (s_X12_tell w33 (by show (0 : Int) ≤ 15; omega)).to ?_
        rintro _ m4 ⟨w_m4, g34, rfl, p35⟩
        have f_m4 : Fx (RS [20, 22, 24, 26, 28, 29, 31, 49, 52]) m m4 := f33.tr g34 (RS_sub rfl)
        have p36 : (m4.1 187 16).toInt = (0 : Int) + 1 := p35
        clear p35
        have e37 : (m4.1 187 11).toInt = ((m3.1 187 11)).toInt := congrArg _ (g34.at (a := 187) (k := 11) (by decide))
        have e38 : (m4.1 187 10).toInt = ((m3.1 187 10)).toInt := congrArg _ (g34.at (a := 187) (k := 10) (by decide))
        have e39 : (m4.1 187 1).toInt = ((m3.1 187 1)).toInt := congrArg _ (g34.at (a := 187) (k := 1) (by decide))
        have e40 : (m4.1 187 0).toInt = ((m3.1 187 0)).toInt := congrArg _ (g34.at (a := 187) (k := 0) (by decide))
        have e41 : (m4.1 187 32).toInt = ((m3.1 187 32)).toInt := congrArg _ (g34.at (a := 187) (k := 32) (by decide))
        refine ⟨rfl, ?_⟩
        refine (s_X12_sumOfAll w_m4).to ?_
        rintro _ m5 ⟨w_m5, g42, v6, rfl⟩
        have f_m5 : Fx (RS [20, 22, 24, 26, 28, 29, 31, 49, 52]) m m5 := f_m4.tr g42 (RS_sub rfl)
        have e43 : (m5.1 187 11).toInt = ((m4.1 187 11)).toInt := congrArg _ (g42.at (a := 187) (k := 11) (by decide))
        have e44 : (m5.1 187 10).toInt = ((m4.1 187 10)).toInt := congrArg _ (g42.at (a := 187) (k := 10) (by decide))
        have e45 : (m5.1 187 16).toInt = ((m4.1 187 16)).toInt := congrArg _ (g42.at (a := 187) (k := 16) (by decide))
        have e46 : (m5.1 187 1).toInt = ((m4.1 187 1)).toInt := congrArg _ (g42.at (a := 187) (k := 1) (by decide))
        have e47 : (m5.1 187 0).toInt = ((m4.1 187 0)).toInt := congrArg _ (g42.at (a := 187) (k := 0) (by decide))
        have e48 : (m5.1 187 32).toInt = ((m4.1 187 32)).toInt := congrArg _ (g42.at (a := 187) (k := 32) (by decide))
        refine ⟨v6, rfl, ?_⟩
        have r49 := w_m5.at (a := 187) (k := 16) rfl
        refine (s_X12_tell w_m5 (by show ((m5.1 187 16)).toInt ≤ 15; omega)).to ?_
        rintro _ m7 ⟨w_m7, g50, rfl, p51⟩
        have f_m7 : Fx (RS [20, 22, 24, 26, 28, 29, 31, 49, 52]) m m7 := f_m5.tr g50 (RS_sub rfl)
        have p52 : (m7.1 187 16).toInt = ((m5.1 187 16)).toInt + 1 := p51
        clear p51
        have e53 : (m7.1 187 11).toInt = ((m5.1 187 11)).toInt := congrArg _ (g50.at (a := 187) (k := 11) (by decide))
        have e54 : (m7.1 187 10).toInt = ((m5.1 187 10)).toInt := congrArg _ (g50.at (a := 187) (k := 10) (by decide))
        have e55 : (m7.1 187 1).toInt = ((m5.1 187 1)).toInt := congrArg _ (g50.at (a := 187) (k := 1) (by decide))
        have e56 : (m7.1 187 0).toInt = ((m5.1 187 0)).toInt := congrArg _ (g50.at (a := 187) (k := 0) (by decide))
        have e57 : (m7.1 187 32).toInt = ((m5.1 187 32)).toInt := congrArg _ (g50.at (a := 187) (k := 32) (by decide))
        refine ⟨rfl, ?_⟩
        have r58 := w_m7.at (a := 187) (k := 11) rfl
        have r59 := w_m7.at (a := 187) (k := 10) rfl
        have r60 := w_m7.at (a := 187) (k := 16) rfl
        exact ⟨w_m7, f_m7, _, rfl, (by show ((m7.1 187 11)).toInt = (m.1 187 11).toInt; omega), (by show ((m7.1 187 10)).toInt = (m.1 187 10).toInt; omega), (by show (((m7.1 187 32)).toInt = -1 ∧ ((m7.1 187 16)).toInt = (m.1 187 16).toInt) ∨ (0 ≤ ((m7.1 187 32)).toInt ∧ ((m7.1 187 16)).toInt = 2); omega)⟩
    · intro c61
      have r62 := w_m1.at (a := 187) (k := 11) rfl
      have k63 := y_eqr (n := 0) rfl c61
      have r64 := w_m1.at (a := 187) (k := 10) rfl
      have r65 := w_m1.at (a := 187) (k := 16) rfl
      exact ⟨w_m1, f_m1, _, rfl, (by show ((m1.1 187 11)).toInt = (m.1 187 11).toInt; omega), (by show ((m1.1 187 10)).toInt = (m.1 187 10).toInt; omega), (by show ((-1 : Int) = -1 ∧ ((m1.1 187 16)).toInt = (m.1 187 16).toInt) ∨ (0 ≤ (-1 : Int) ∧ ((m1.1 187 16)).toInt = 2); omega)⟩
set_option maxHeartbeats 4000000 in
theorem nl_X12_beats {ad : Nat → Nat} {d : Nat} {m0 : Wm}  : ∀ n : Nat, (∀ (m : Wm) (x1 x2 x3 : Int32), WT m → Fx (RS [20, 22, 26, 28]) m0 m → (0 : Int) ≤ x1.toInt → x1.toInt ≤ (7 : Int) → (0 : Int) ≤ x3.toInt → x3.toInt ≤ (8 : Int) → (x1.toInt < (m0.1 187 1).toInt) → 8 - x3.toInt < (n : Int) → AW ad E0 μX12_beats (d + 171) (fun r m' => WT m' ∧ Fx (RS [20, 22, 26, 28]) m0 m' ∧ ∃ v : Int32, r = some (.int v) ∧ (((x1.toInt < 0 ∨ (m0.1 187 1).toInt ≤ x1.toInt) ∧ (m'.1 187 16).toInt = (m0.1 187 16).toInt) ∨ (0 ≤ x1.toInt ∧ x1.toInt < (m0.1 187 1).toInt ∧ (m'.1 187 16).toInt = 1))) 19 [(0, .ref (ad 187)), (1, .int x1), (2, .int x2), (3, .int x3)] [] m) := by
  intro n
  induction n with
  | zero =>
    intros
    exfalso
    omega
  | succ n ih =>
    intro m x1 x2 x3 w f j1 j2 j3 j4 j5 hn
    refine g_X12_beats_19  ?_
    refine ⟨?_, ?_⟩
    · intro c1
      have r2 := w.at (a := 187) (k := 1) rfl
      have k3 := z_le c1
      have w4 : WT (uI m 187 16 (0 : Int32)) := w.t rfl (by show (0 : Int) ≤ (0 : Int); omega) (by show (0 : Int) ≤ 16; omega)
      have f4 : Fx (RS [20, 22, 26, 28]) m0 (uI m 187 16 (0 : Int32)) := f.i rfl
      refine (s_X12_tell w4 (by show (0 : Int) ≤ 15; omega)).to ?_
      rintro _ m1 ⟨w_m1, g5, rfl, p6⟩
      have f_m1 : Fx (RS [20, 22, 26, 28]) m0 m1 := f4.tr g5 (RS_sub rfl)
      have p7 : (m1.1 187 16).toInt = (0 : Int) + 1 := p6
      clear p6
      have e8 : (m1.1 187 1).toInt = ((m.1 187 1)).toInt := congrArg _ (g5.at (a := 187) (k := 1) (by decide))
      have e9 : (m1.1 187 0).toInt = ((m.1 187 0)).toInt := congrArg _ (g5.at (a := 187) (k := 0) (by decide))
      refine ⟨rfl, ?_⟩
      refine (s_X12_beatenBy w_m1 (by show (0 : Int) ≤ (x1).toInt; omega) (by show (x1).toInt ≤ (7 : Int); omega)).to ?_
      rintro _ m2 ⟨w_m2, g10, v3, rfl⟩
      have f_m2 : Fx (RS [20, 22, 26, 28]) m0 m2 := f_m1.tr g10 (RS_sub rfl)
      have e11 : (m2.1 187 16).toInt = ((m1.1 187 16)).toInt := congrArg _ (g10.at (a := 187) (k := 16) (by decide))
      have e12 : (m2.1 187 1).toInt = ((m1.1 187 1)).toInt := congrArg _ (g10.at (a := 187) (k := 1) (by decide))
      have e13 : (m2.1 187 0).toInt = ((m1.1 187 0)).toInt := congrArg _ (g10.at (a := 187) (k := 0) (by decide))
      refine ⟨v3, rfl, ?_⟩
      have r14 := w_m2.at (a := 187) (k := 16) rfl
      exact ⟨w_m2, f_m2, _, rfl, (by show ((x1.toInt < 0 ∨ (m0.1 187 1).toInt ≤ x1.toInt) ∧ ((m2.1 187 16)).toInt = (m0.1 187 16).toInt) ∨ (0 ≤ x1.toInt ∧ x1.toInt < (m0.1 187 1).toInt ∧ ((m2.1 187 16)).toInt = 1); omega)⟩
    · intro c15
      have r16 := w.at (a := 187) (k := 1) rfl
      have k17 := z_nle c15
      refine ⟨?_, ?_⟩
      · intro c18
        have k19 := z_eq c18
        have t20 := ti_addc (x := x3) (y := (1 : Int32)) (c := 1) rfl (by omega)
        exact ih _ _ _ _ w f (by show (0 : Int) ≤ (x1).toInt; omega) (by show (x1).toInt ≤ (7 : Int); omega) (by show (0 : Int) ≤ ((x3 + (1 : Int32))).toInt; omega) (by show ((x3 + (1 : Int32))).toInt ≤ (8 : Int); omega) (by show (x1).toInt < (m0.1 187 1).toInt; omega) (by show 8 - ((x3 + (1 : Int32))).toInt < _; omega)
      · intro c21
        have k22 := z_ne c21
        refine (s_X12_winner w (by show (0 : Int) ≤ (x1).toInt; omega) (by show (x1).toInt ≤ (7 : Int); omega) (by show (0 : Int) ≤ (x3).toInt; omega) (by show (x3).toInt ≤ (7 : Int); omega)).to ?_
        rintro _ m4 ⟨w_m4, g23, v5, rfl, p24, p25⟩
        have f_m4 : Fx (RS [20, 22, 26, 28]) m0 m4 := f.tr g23 (RS_sub rfl)
        have e26 : (m4.1 187 16).toInt = ((m.1 187 16)).toInt := congrArg _ (g23.at (a := 187) (k := 16) (by decide))
        have e27 : (m4.1 187 1).toInt = ((m.1 187 1)).toInt := congrArg _ (g23.at (a := 187) (k := 1) (by decide))
        have e28 : (m4.1 187 0).toInt = ((m.1 187 0)).toInt := congrArg _ (g23.at (a := 187) (k := 0) (by decide))
        refine ⟨v5, rfl, ?_⟩
        refine ⟨?_, ?_⟩
        · intro c29
          have k30 := y_ner (n := 2) rfl c29
          have t31 := ti_addc (x := x3) (y := (1 : Int32)) (c := 1) rfl (by omega)
          exact ih _ _ _ _ w_m4 f_m4 (by show (0 : Int) ≤ (x1).toInt; omega) (by show (x1).toInt ≤ (7 : Int); omega) (by show (0 : Int) ≤ ((x3 + (1 : Int32))).toInt; omega) (by show ((x3 + (1 : Int32))).toInt ≤ (8 : Int); omega) (by show (x1).toInt < (m0.1 187 1).toInt; omega) (by show 8 - ((x3 + (1 : Int32))).toInt < _; omega)
        · intro c32
          have k33 := y_eqr (n := 2) rfl c32
          have t34 := ti_addc (x := x3) (y := (1 : Int32)) (c := 1) rfl (by omega)
          exact ih _ _ _ _ w_m4 f_m4 (by show (0 : Int) ≤ (x1).toInt; omega) (by show (x1).toInt ≤ (7 : Int); omega) (by show (0 : Int) ≤ ((x3 + (1 : Int32))).toInt; omega) (by show ((x3 + (1 : Int32))).toInt ≤ (8 : Int); omega) (by show (x1).toInt < (m0.1 187 1).toInt; omega) (by show 8 - ((x3 + (1 : Int32))).toInt < _; omega)
set_option maxHeartbeats 4000000 in
theorem n_X12_beats {ad : Nat → Nat} {d : Nat} {m : Wm} {x1 : Int32} (w : WT m) : Ct ad μX12_beats (d + 171) [.ref (ad 187), .int x1] m (fun r m' => WT m' ∧ Fx (RS [20, 22, 26, 28]) m m' ∧ ∃ v : Int32, r = some (.int v) ∧ (((x1.toInt < 0 ∨ (m.1 187 1).toInt ≤ x1.toInt) ∧ (m'.1 187 16).toInt = (m.1 187 16).toInt) ∨ (0 ≤ x1.toInt ∧ x1.toInt < (m.1 187 1).toInt ∧ (m'.1 187 16).toInt = 1))) := by
  have f : Fx (RS [20, 22, 26, 28]) m m := Fx.rf
  refine v_X12_beats  ?_
  have w1 : WT (uI m 187 17 (0 : Int32)) := w.n rfl
  have f1 : Fx (RS [20, 22, 26, 28]) m (uI m 187 17 (0 : Int32)) := f.i rfl
  refine (s_X12_isSide w1).to ?_
  rintro _ m1 ⟨w_m1, g2, v2, rfl, p4, p5, p3⟩
  have f_m1 : Fx (RS [20, 22, 26, 28]) m m1 := f1.tr g2 (RS_sub rfl)
  have p6 : (v2.toInt = 0 ∧ ((x1).toInt < 0 ∨ ((m.1 187 1)).toInt ≤ (x1).toInt)) ∨ (v2.toInt = 1 ∧ 0 ≤ (x1).toInt ∧ (x1).toInt < ((m.1 187 1)).toInt) := p3
  clear p3
  have e7 : (m1.1 187 16).toInt = ((m.1 187 16)).toInt := congrArg _ (g2.at (a := 187) (k := 16) (by decide))
  have e8 : (m1.1 187 1).toInt = ((m.1 187 1)).toInt := congrArg _ (g2.at (a := 187) (k := 1) (by decide))
  have e9 : (m1.1 187 0).toInt = ((m.1 187 0)).toInt := congrArg _ (g2.at (a := 187) (k := 0) (by decide))
  refine ⟨v2, rfl, ?_⟩
  refine ⟨?_, ?_⟩
  · intro c10
    have k11 := y_ner (n := 0) rfl c10
    have r12 := w.at (a := 187) (k := 1) rfl
    exact (nl_X12_beats (m0 := m) 1000000) _ _ _ _ w_m1 f_m1 (by show (0 : Int) ≤ (x1).toInt; omega) (by show (x1).toInt ≤ (7 : Int); omega) (by show (0 : Int) ≤ (0 : Int); omega) (by show (0 : Int) ≤ (8 : Int); omega) (by show (x1).toInt < (m.1 187 1).toInt; omega) (by show 8 - (0 : Int) < _; omega)
  · intro c13
    have k14 := y_eqr (n := 0) rfl c13
    have r15 := w_m1.at (a := 187) (k := 16) rfl
    exact ⟨w_m1, f_m1, _, rfl, (by show ((x1.toInt < 0 ∨ (m.1 187 1).toInt ≤ x1.toInt) ∧ ((m1.1 187 16)).toInt = (m.1 187 16).toInt) ∨ (0 ≤ x1.toInt ∧ x1.toInt < (m.1 187 1).toInt ∧ ((m1.1 187 16)).toInt = 1); omega)⟩
set_option maxHeartbeats 4000000 in
theorem nl_X12_kings {ad : Nat → Nat} {d : Nat} {m0 : Wm}  : ∀ n : Nat, (∀ (m : Wm) (x1 x2 x3 : Int32), WT m → Fx (RS [20, 22, 26, 28]) m0 m → (0 : Int) ≤ x3.toInt → x3.toInt ≤ (8 : Int) → (8 - x3.toInt) * 100 + 50 < (n : Int) → AW ad E0 μX12_kings (d + 171) (fun r m' => WT m' ∧ Fx (RS [20, 22, 26, 28]) m0 m' ∧ ∃ v : Int32, r = some (.int v) ∧ ((m'.1 187 16).toInt = 1)) 11 [(0, .ref (ad 187)), (1, .int x1), (2, .int x2), (3, .int x3)] [] m) ∧ (∀ (m : Wm) (x1 x2 x3 x4 x5 x6 : Int32), WT m → Fx (RS [20, 22, 26, 28]) m0 m → (0 : Int) ≤ x3.toInt → x3.toInt ≤ (7 : Int) → (0 : Int) ≤ x6.toInt → x6.toInt ≤ (8 : Int) → (8 - x3.toInt) * 100 + 20 - x6.toInt < (n : Int) → AW ad E0 μX12_kings (d + 171) (fun r m' => WT m' ∧ Fx (RS [20, 22, 26, 28]) m0 m' ∧ ∃ v : Int32, r = some (.int v) ∧ ((m'.1 187 16).toInt = 1)) 37 [(0, .ref (ad 187)), (1, .int x1), (2, .int x2), (3, .int x3), (4, .int x4), (5, .int x5), (6, .int x6)] [] m) ∧ (∀ (m : Wm) (x2 x3 x4 s0 s1 : Int32), WT m → Fx (RS [20, 22, 26, 28]) m0 m → (0 : Int) ≤ x3.toInt → x3.toInt ≤ (7 : Int) → (8 - x3.toInt) * 100 < (n : Int) → AW ad E0 μX12_kings (d + 171) (fun r m' => WT m' ∧ Fx (RS [20, 22, 26, 28]) m0 m' ∧ ∃ v : Int32, r = some (.int v) ∧ ((m'.1 187 16).toInt = 1)) 98 [(0, .ref (ad 187)), (2, .int x2), (3, .int x3), (4, .int x4)] [.int s0, .int s1] m) := by
  intro n
  induction n with
  | zero =>
    refine ⟨?_, ?_, ?_⟩ <;> intros <;> exfalso <;> omega
  | succ n ih =>
    refine ⟨?_, ?_, ?_⟩
    · intro m x1 x2 x3 w f j1 j2 hn
      refine g_X12_kings_11  ?_
      refine ⟨?_, ?_⟩
      · intro c1
        have r2 := w.at (a := 187) (k := 1) rfl
        have k3 := z_le c1
        have w4 : WT (uI m 187 16 (0 : Int32)) := w.t rfl (by show (0 : Int) ≤ (0 : Int); omega) (by show (0 : Int) ≤ 16; omega)
        have f4 : Fx (RS [20, 22, 26, 28]) m0 (uI m 187 16 (0 : Int32)) := f.i rfl
        refine (s_X12_tell w4 (by show (0 : Int) ≤ 15; omega)).to ?_
        rintro _ m1 ⟨w_m1, g5, rfl, p6⟩
        have f_m1 : Fx (RS [20, 22, 26, 28]) m0 m1 := f4.tr g5 (RS_sub rfl)
        have p7 : (m1.1 187 16).toInt = (0 : Int) + 1 := p6
        clear p6
        have e8 : (m1.1 187 1).toInt = ((m.1 187 1)).toInt := congrArg _ (g5.at (a := 187) (k := 1) (by decide))
        have e9 : (m1.1 187 0).toInt = ((m.1 187 0)).toInt := congrArg _ (g5.at (a := 187) (k := 0) (by decide))
        refine ⟨rfl, ?_⟩
        have r10 := w_m1.at (a := 187) (k := 16) rfl
        exact ⟨w_m1, f_m1, _, rfl, (by show ((m1.1 187 16)).toInt = 1; omega)⟩
      · intro c11
        have r12 := w.at (a := 187) (k := 1) rfl
        have k13 := z_nle c11
        refine (s_X12_beatenBy w (by show (0 : Int) ≤ (x3).toInt; omega) (by show (x3).toInt ≤ (7 : Int); omega)).to ?_
        rintro _ m2 ⟨w_m2, g14, v3, rfl⟩
        have f_m2 : Fx (RS [20, 22, 26, 28]) m0 m2 := f.tr g14 (RS_sub rfl)
        have e15 : (m2.1 187 16).toInt = ((m.1 187 16)).toInt := congrArg _ (g14.at (a := 187) (k := 16) (by decide))
        have e16 : (m2.1 187 1).toInt = ((m.1 187 1)).toInt := congrArg _ (g14.at (a := 187) (k := 1) (by decide))
        have e17 : (m2.1 187 0).toInt = ((m.1 187 0)).toInt := congrArg _ (g14.at (a := 187) (k := 0) (by decide))
        refine ⟨v3, rfl, ?_⟩
        exact ih.2.1 _ _ _ _ _ _ _ w_m2 f_m2 (by show (0 : Int) ≤ (x3).toInt; omega) (by show (x3).toInt ≤ (7 : Int); omega) (by show (0 : Int) ≤ (0 : Int); omega) (by show (0 : Int) ≤ (8 : Int); omega) (by show (8 - (x3).toInt) * 100 + 20 - (0 : Int) < _; omega)
    · intro m x1 x2 x3 x4 x5 x6 w f j1 j2 j3 j4 hn
      refine g_X12_kings_37  ?_
      refine ⟨?_, ?_⟩
      · intro c1
        have r2 := w.at (a := 187) (k := 1) rfl
        have k3 := z_le c1
        refine ⟨?_, ?_⟩
        · intro c4
          have k5 := z_ne c4
          exact ih.2.2 _ _ _ _ _ _ w f (by show (0 : Int) ≤ (x3).toInt; omega) (by show (x3).toInt ≤ (7 : Int); omega) (by show (8 - (x3).toInt) * 100 < _; omega)
        · intro c6
          have k7 := z_eq c6
          exact ih.2.2 _ _ _ _ _ _ w f (by show (0 : Int) ≤ (x3).toInt; omega) (by show (x3).toInt ≤ (7 : Int); omega) (by show (8 - (x3).toInt) * 100 < _; omega)
      · intro c8
        have r9 := w.at (a := 187) (k := 1) rfl
        have k10 := z_nle c8
        refine (s_X12_has w).to ?_
        rintro _ m1 ⟨w_m1, g11, v2, rfl, p12, p13⟩
        have f_m1 : Fx (RS [20, 22, 26, 28]) m0 m1 := f.tr g11 (RS_sub rfl)
        have e14 : (m1.1 187 16).toInt = ((m.1 187 16)).toInt := congrArg _ (g11.at (a := 187) (k := 16) (by decide))
        have e15 : (m1.1 187 1).toInt = ((m.1 187 1)).toInt := congrArg _ (g11.at (a := 187) (k := 1) (by decide))
        have e16 : (m1.1 187 0).toInt = ((m.1 187 0)).toInt := congrArg _ (g11.at (a := 187) (k := 0) (by decide))
        refine ⟨v2, rfl, ?_⟩
        refine ⟨?_, ?_⟩
        · intro c17
          have k18 := y_eqr (n := 0) rfl c17
          have t19 := ti_addc (x := x6) (y := (1 : Int32)) (c := 1) rfl (by omega)
          exact ih.2.1 _ _ _ _ _ _ _ w_m1 f_m1 (by show (0 : Int) ≤ (x3).toInt; omega) (by show (x3).toInt ≤ (7 : Int); omega) (by show (0 : Int) ≤ ((x6 + (1 : Int32))).toInt; omega) (by show ((x6 + (1 : Int32))).toInt ≤ (8 : Int); omega) (by show (8 - (x3).toInt) * 100 + 20 - ((x6 + (1 : Int32))).toInt < _; omega)
        · intro c20
          have k21 := y_ner (n := 0) rfl c20
          refine (s_X12_beatenBy w_m1 (by show (0 : Int) ≤ (x6).toInt; omega) (by show (x6).toInt ≤ (7 : Int); omega)).to ?_
          rintro _ m3 ⟨w_m3, g22, v4, rfl⟩
          have f_m3 : Fx (RS [20, 22, 26, 28]) m0 m3 := f_m1.tr g22 (RS_sub rfl)
          have e23 : (m3.1 187 16).toInt = ((m1.1 187 16)).toInt := congrArg _ (g22.at (a := 187) (k := 16) (by decide))
          have e24 : (m3.1 187 1).toInt = ((m1.1 187 1)).toInt := congrArg _ (g22.at (a := 187) (k := 1) (by decide))
          have e25 : (m3.1 187 0).toInt = ((m1.1 187 0)).toInt := congrArg _ (g22.at (a := 187) (k := 0) (by decide))
          refine ⟨v4, rfl, ?_⟩
          have t26 := ti_addc (x := x6) (y := (1 : Int32)) (c := 1) rfl (by omega)
          exact ih.2.1 _ _ _ _ _ _ _ w_m3 f_m3 (by show (0 : Int) ≤ (x3).toInt; omega) (by show (x3).toInt ≤ (7 : Int); omega) (by show (0 : Int) ≤ ((x6 + (1 : Int32))).toInt; omega) (by show ((x6 + (1 : Int32))).toInt ≤ (8 : Int); omega) (by show (8 - (x3).toInt) * 100 + 20 - ((x6 + (1 : Int32))).toInt < _; omega)
    · intro m x2 x3 x4 s0 s1 w f j1 j2 hn
      refine g_X12_kings_98  ?_
      refine ⟨?_, ?_⟩
      · intro c1
        have k2 := y_ner (n := 0) rfl c1
        have t3 := ti_addc (x := x3) (y := (1 : Int32)) (c := 1) rfl (by omega)
        exact ih.1 _ _ _ _ w f (by show (0 : Int) ≤ ((x3 + (1 : Int32))).toInt; omega) (by show ((x3 + (1 : Int32))).toInt ≤ (8 : Int); omega) (by show (8 - ((x3 + (1 : Int32))).toInt) * 100 + 50 < _; omega)
      · intro c4
        have k5 := y_eqr (n := 0) rfl c4
        have t6 := ti_addc (x := x3) (y := (1 : Int32)) (c := 1) rfl (by omega)
        exact ih.1 _ _ _ _ w f (by show (0 : Int) ≤ ((x3 + (1 : Int32))).toInt; omega) (by show ((x3 + (1 : Int32))).toInt ≤ (8 : Int); omega) (by show (8 - ((x3 + (1 : Int32))).toInt) * 100 + 50 < _; omega)
set_option maxHeartbeats 4000000 in
theorem n_X12_kings {ad : Nat → Nat} {d : Nat} {m : Wm} (w : WT m) : Ct ad μX12_kings (d + 171) [.ref (ad 187)] m (fun r m' => WT m' ∧ Fx (RS [20, 22, 26, 28]) m m' ∧ ∃ v : Int32, r = some (.int v) ∧ ((m'.1 187 16).toInt = 1)) := by
  have f : Fx (RS [20, 22, 26, 28]) m m := Fx.rf
  refine v_X12_kings  ?_
  have w1 : WT (uI m 187 17 (0 : Int32)) := w.n rfl
  have f1 : Fx (RS [20, 22, 26, 28]) m (uI m 187 17 (0 : Int32)) := f.i rfl
  exact (nl_X12_kings (m0 := m) 1000000).1 _ _ _ _ w1 f1 (by show (0 : Int) ≤ (0 : Int); omega) (by show (0 : Int) ≤ (8 : Int); omega) (by show (8 - (0 : Int)) * 100 + 50 < _; omega)
set_option maxHeartbeats 4000000 in
theorem nl_X12_master {ad : Nat → Nat} {d : Nat} {m0 : Wm}  : ∀ n : Nat, (∀ (m : Wm) (x1 x2 x3 x4 : Int32), WT m → Fx (RS [20, 26]) m0 m → (0 : Int) ≤ x1.toInt → x1.toInt ≤ (3 : Int) → (0 : Int) ≤ x2.toInt → x2.toInt ≤ (7 : Int) → (0 : Int) ≤ x4.toInt → x4.toInt ≤ (8 : Int) → (8 - x4.toInt) * 2 + 101 < (n : Int) → AW ad E0 μX12_master (d + 2) (fun r m' => WT m' ∧ Fx (RS [20, 26]) m0 m' ∧ ∃ v : Int32, r = some (.int v) ∧ (((v.toInt = -1 ∨ v.toInt = -2) ∧ (m'.1 187 16).toInt = (m0.1 187 16).toInt) ∨ (0 ≤ v.toInt ∧ (m'.1 187 16).toInt = 3))) 33 [(0, .ref (ad 187)), (1, .int x1), (2, .int x2), (3, .int x3), (4, .int x4)] [] m) ∧ (∀ (m : Wm) (x1 x2 x3 x4 : Int32), WT m → Fx (RS [20, 26]) m0 m → (0 : Int) ≤ x1.toInt → x1.toInt ≤ (3 : Int) → (0 : Int) ≤ x2.toInt → x2.toInt ≤ (7 : Int) → (0 : Int) ≤ x4.toInt → x4.toInt ≤ (7 : Int) → (8 - x4.toInt) * 2 + 100 < (n : Int) → AW ad E0 μX12_master (d + 2) (fun r m' => WT m' ∧ Fx (RS [20, 26]) m0 m' ∧ ∃ v : Int32, r = some (.int v) ∧ (((v.toInt = -1 ∨ v.toInt = -2) ∧ (m'.1 187 16).toInt = (m0.1 187 16).toInt) ∨ (0 ≤ v.toInt ∧ (m'.1 187 16).toInt = 3))) 69 [(0, .ref (ad 187)), (1, .int x1), (2, .int x2), (3, .int x3), (4, .int x4)] [] m) ∧ (∀ (m : Wm) (x1 x2 x3 x4 x5 : Int32), WT m → Fx (RS [20, 26]) m0 m → (0 : Int) ≤ x1.toInt → x1.toInt ≤ (3 : Int) → (0 : Int) ≤ x2.toInt → x2.toInt ≤ (7 : Int) → (0 : Int) ≤ x5.toInt → x5.toInt ≤ (8 : Int) → 8 - x5.toInt < (n : Int) → AW ad E0 μX12_master (d + 2) (fun r m' => WT m' ∧ Fx (RS [20, 26]) m0 m' ∧ ∃ v : Int32, r = some (.int v) ∧ (((v.toInt = -1 ∨ v.toInt = -2) ∧ (m'.1 187 16).toInt = (m0.1 187 16).toInt) ∨ (0 ≤ v.toInt ∧ (m'.1 187 16).toInt = 3))) 97 [(0, .ref (ad 187)), (1, .int x1), (2, .int x2), (3, .int x3), (4, .int x4), (5, .int x5)] [] m) := by
  intro n
  induction n with
  | zero =>
    refine ⟨?_, ?_, ?_⟩ <;> intros <;> exfalso <;> omega
  | succ n ih =>
    refine ⟨?_, ?_, ?_⟩
    · intro m x1 x2 x3 x4 w f j1 j2 j3 j4 j5 j6 hn
      refine g_X12_master_33  ?_
      refine ⟨?_, ?_⟩
      · intro c1
        have r2 := w.at (a := 187) (k := 1) rfl
        have k3 := z_le c1
        exact ih.2.2 _ _ _ _ _ _ w f (by show (0 : Int) ≤ (x1).toInt; omega) (by show (x1).toInt ≤ (3 : Int); omega) (by show (0 : Int) ≤ (x2).toInt; omega) (by show (x2).toInt ≤ (7 : Int); omega) (by show (0 : Int) ≤ (0 : Int); omega) (by show (0 : Int) ≤ (8 : Int); omega) (by show 8 - (0 : Int) < _; omega)
      · intro c4
        have r5 := w.at (a := 187) (k := 1) rfl
        have k6 := z_nle c4
        refine ⟨?_, ?_⟩
        · have t7 := ti_mulc (c := 4) (y := (4 : Int32)) (x := x4) rfl (by omega)
          have t8 := ti_add (x := ((4 : Int32) * x4)) (y := x1) (by omega)
          exact vpi (by omega) (by omega)
        · refine ⟨?_, ?_⟩
          · have t9 := ti_mulc (c := 4) (y := (4 : Int32)) (x := x2) rfl (by omega)
            have t10 := ti_add (x := ((4 : Int32) * x2)) (y := x1) (by omega)
            exact vpi (by omega) (by omega)
          · refine ⟨?_, ?_⟩
            · intro c11
              have k12 := z_le c11
              exact ih.2.1 _ _ _ _ _ w f (by show (0 : Int) ≤ (x1).toInt; omega) (by show (x1).toInt ≤ (3 : Int); omega) (by show (0 : Int) ≤ (x2).toInt; omega) (by show (x2).toInt ≤ (7 : Int); omega) (by show (0 : Int) ≤ (x4).toInt; omega) (by show (x4).toInt ≤ (7 : Int); omega) (by show (8 - (x4).toInt) * 2 + 100 < _; omega)
            · intro c13
              have k14 := z_nle c13
              exact ih.2.1 _ _ _ _ _ w f (by show (0 : Int) ≤ (x1).toInt; omega) (by show (x1).toInt ≤ (3 : Int); omega) (by show (0 : Int) ≤ (x4).toInt; omega) (by show (x4).toInt ≤ (7 : Int); omega) (by show (0 : Int) ≤ (x4).toInt; omega) (by show (x4).toInt ≤ (7 : Int); omega) (by show (8 - (x4).toInt) * 2 + 100 < _; omega)
    · intro m x1 x2 x3 x4 w f j1 j2 j3 j4 j5 j6 hn
      refine g_X12_master_69  ?_
      refine ⟨?_, ?_⟩
      · have t1 := ti_mulc (c := 4) (y := (4 : Int32)) (x := x4) rfl (by omega)
        have t2 := ti_add (x := ((4 : Int32) * x4)) (y := x1) (by omega)
        exact vpi (by omega) (by omega)
      · have t3 := ti_addc (x := x4) (y := (1 : Int32)) (c := 1) rfl (by omega)
        exact ih.1 _ _ _ _ _ w f (by show (0 : Int) ≤ (x1).toInt; omega) (by show (x1).toInt ≤ (3 : Int); omega) (by show (0 : Int) ≤ (x2).toInt; omega) (by show (x2).toInt ≤ (7 : Int); omega) (by show (0 : Int) ≤ ((x4 + (1 : Int32))).toInt; omega) (by show ((x4 + (1 : Int32))).toInt ≤ (8 : Int); omega) (by show (8 - ((x4 + (1 : Int32))).toInt) * 2 + 101 < _; omega)
    · intro m x1 x2 x3 x4 x5 w f j1 j2 j3 j4 j5 j6 hn
      refine g_X12_master_97  ?_
      refine ⟨?_, ?_⟩
      · intro c1
        have r2 := w.at (a := 187) (k := 1) rfl
        have k3 := z_le c1
        refine ⟨?_, ?_⟩
        · have t4 := ti_mulc (c := 4) (y := (4 : Int32)) (x := x2) rfl (by omega)
          have t5 := ti_add (x := ((4 : Int32) * x2)) (y := x1) (by omega)
          exact vpi (by omega) (by omega)
        · have w6 : WT (uI m 187 16 (0 : Int32)) := w.t rfl (by show (0 : Int) ≤ (0 : Int); omega) (by show (0 : Int) ≤ 16; omega)
          have f6 : Fx (RS [20, 26]) m0 (uI m 187 16 (0 : Int32)) := f.i rfl
          refine (s_X12_tell w6 (by show (0 : Int) ≤ 15; omega)).to ?_
          rintro _ m1 ⟨w_m1, g7, rfl, p8⟩
          have f_m1 : Fx (RS [20, 26]) m0 m1 := f6.tr g7 (RS_sub rfl)
          have p9 : (m1.1 187 16).toInt = (0 : Int) + 1 := p8
          clear p8
          have e10 : (m1.1 187 1).toInt = ((m.1 187 1)).toInt := congrArg _ (g7.at (a := 187) (k := 1) (by decide))
          have e11 : (m1.1 187 0).toInt = ((m.1 187 0)).toInt := congrArg _ (g7.at (a := 187) (k := 0) (by decide))
          refine ⟨rfl, ?_⟩
          have r12 := w_m1.at (a := 187) (k := 16) rfl
          refine (s_X12_tell w_m1 (by show ((m1.1 187 16)).toInt ≤ 15; omega)).to ?_
          rintro _ m2 ⟨w_m2, g13, rfl, p14⟩
          have f_m2 : Fx (RS [20, 26]) m0 m2 := f_m1.tr g13 (RS_sub rfl)
          have p15 : (m2.1 187 16).toInt = ((m1.1 187 16)).toInt + 1 := p14
          clear p14
          have e16 : (m2.1 187 1).toInt = ((m1.1 187 1)).toInt := congrArg _ (g13.at (a := 187) (k := 1) (by decide))
          have e17 : (m2.1 187 0).toInt = ((m1.1 187 0)).toInt := congrArg _ (g13.at (a := 187) (k := 0) (by decide))
          refine ⟨rfl, ?_⟩
          have r18 := w_m2.at (a := 187) (k := 16) rfl
          refine (s_X12_tell w_m2 (by show ((m2.1 187 16)).toInt ≤ 15; omega)).to ?_
          rintro _ m3 ⟨w_m3, g19, rfl, p20⟩
          have f_m3 : Fx (RS [20, 26]) m0 m3 := f_m2.tr g19 (RS_sub rfl)
          have p21 : (m3.1 187 16).toInt = ((m2.1 187 16)).toInt + 1 := p20
          clear p20
          have e22 : (m3.1 187 1).toInt = ((m2.1 187 1)).toInt := congrArg _ (g19.at (a := 187) (k := 1) (by decide))
          have e23 : (m3.1 187 0).toInt = ((m2.1 187 0)).toInt := congrArg _ (g19.at (a := 187) (k := 0) (by decide))
          refine ⟨rfl, ?_⟩
          have r24 := w_m3.at (a := 187) (k := 16) rfl
          exact ⟨w_m3, f_m3, _, rfl, (by show (((x2).toInt = -1 ∨ (x2).toInt = -2) ∧ ((m3.1 187 16)).toInt = (m0.1 187 16).toInt) ∨ (0 ≤ (x2).toInt ∧ ((m3.1 187 16)).toInt = 3); omega)⟩
      · intro c25
        have r26 := w.at (a := 187) (k := 1) rfl
        have k27 := z_nle c25
        refine ⟨?_, ?_⟩
        · have t28 := ti_mulc (c := 4) (y := (4 : Int32)) (x := x5) rfl (by omega)
          have t29 := ti_add (x := ((4 : Int32) * x5)) (y := x1) (by omega)
          exact vpi (by omega) (by omega)
        · refine ⟨?_, ?_⟩
          · have t30 := ti_mulc (c := 4) (y := (4 : Int32)) (x := x2) rfl (by omega)
            have t31 := ti_add (x := ((4 : Int32) * x2)) (y := x1) (by omega)
            exact vpi (by omega) (by omega)
          · refine ⟨?_, ?_⟩
            · intro c32
              have k33 := z_ne c32
              have t34 := ti_addc (x := x5) (y := (1 : Int32)) (c := 1) rfl (by omega)
              exact ih.2.2 _ _ _ _ _ _ w f (by show (0 : Int) ≤ (x1).toInt; omega) (by show (x1).toInt ≤ (3 : Int); omega) (by show (0 : Int) ≤ (x2).toInt; omega) (by show (x2).toInt ≤ (7 : Int); omega) (by show (0 : Int) ≤ ((x5 + (1 : Int32))).toInt; omega) (by show ((x5 + (1 : Int32))).toInt ≤ (8 : Int); omega) (by show 8 - ((x5 + (1 : Int32))).toInt < _; omega)
            · intro c35
              have k36 := z_eq c35
              have t37 := ti_addc (x := x5) (y := (1 : Int32)) (c := 1) rfl (by omega)
              exact ih.2.2 _ _ _ _ _ _ w f (by show (0 : Int) ≤ (x1).toInt; omega) (by show (x1).toInt ≤ (3 : Int); omega) (by show (0 : Int) ≤ (x2).toInt; omega) (by show (x2).toInt ≤ (7 : Int); omega) (by show (0 : Int) ≤ ((x5 + (1 : Int32))).toInt; omega) (by show ((x5 + (1 : Int32))).toInt ≤ (8 : Int); omega) (by show 8 - ((x5 + (1 : Int32))).toInt < _; omega)
set_option maxHeartbeats 4000000 in
theorem n_X12_master {ad : Nat → Nat} {d : Nat} {m : Wm} {x1 : Int32} (w : WT m) : Ct ad μX12_master (d + 2) [.ref (ad 187), .int x1] m (fun r m' => WT m' ∧ Fx (RS [20, 26]) m m' ∧ ∃ v : Int32, r = some (.int v) ∧ (((v.toInt = -1 ∨ v.toInt = -2) ∧ (m'.1 187 16).toInt = (m.1 187 16).toInt) ∨ (0 ≤ v.toInt ∧ (m'.1 187 16).toInt = 3))) := by
  have f : Fx (RS [20, 26]) m m := Fx.rf
  refine v_X12_master  ?_
  have w1 : WT (uI m 187 17 (0 : Int32)) := w.n rfl
  have f1 : Fx (RS [20, 26]) m (uI m 187 17 (0 : Int32)) := f.i rfl
  refine (s_X12_isArt w1).to ?_
  rintro _ m1 ⟨w_m1, g2, v2, rfl, p4, p5, p3⟩
  have f_m1 : Fx (RS [20, 26]) m m1 := f1.tr g2 (RS_sub rfl)
  have p6 : (v2.toInt = 0 ∧ ((x1).toInt < 0 ∨ ((m.1 187 0)).toInt ≤ (x1).toInt)) ∨ (v2.toInt = 1 ∧ 0 ≤ (x1).toInt ∧ (x1).toInt < ((m.1 187 0)).toInt) := p3
  clear p3
  have e7 : (m1.1 187 16).toInt = ((m.1 187 16)).toInt := congrArg _ (g2.at (a := 187) (k := 16) (by decide))
  have e8 : (m1.1 187 1).toInt = ((m.1 187 1)).toInt := congrArg _ (g2.at (a := 187) (k := 1) (by decide))
  have e9 : (m1.1 187 0).toInt = ((m.1 187 0)).toInt := congrArg _ (g2.at (a := 187) (k := 0) (by decide))
  refine ⟨v2, rfl, ?_⟩
  refine ⟨?_, ?_⟩
  · intro c10
    have k11 := y_ner (n := 0) rfl c10
    have r12 := w.at (a := 187) (k := 0) rfl
    refine ⟨?_, ?_⟩
    · intro c13
      have r14 := w_m1.at (a := 187) (k := 1) rfl
      have k15 := y_ner (n := 0) rfl c13
      exact (nl_X12_master (m0 := m) 1000000).1 _ _ _ _ _ w_m1 f_m1 (by show (0 : Int) ≤ (x1).toInt; omega) (by show (x1).toInt ≤ (3 : Int); omega) (by show (0 : Int) ≤ (0 : Int); omega) (by show (0 : Int) ≤ (7 : Int); omega) (by show (0 : Int) ≤ (0 : Int); omega) (by show (0 : Int) ≤ (8 : Int); omega) (by show (8 - (0 : Int)) * 2 + 101 < _; omega)
    · intro c16
      have r17 := w_m1.at (a := 187) (k := 1) rfl
      have k18 := y_eqr (n := 0) rfl c16
      have r19 := w_m1.at (a := 187) (k := 16) rfl
      exact ⟨w_m1, f_m1, _, rfl, (by show (((-2 : Int) = -1 ∨ (-2 : Int) = -2) ∧ ((m1.1 187 16)).toInt = (m.1 187 16).toInt) ∨ (0 ≤ (-2 : Int) ∧ ((m1.1 187 16)).toInt = 3); omega)⟩
  · intro c20
    have k21 := y_eqr (n := 0) rfl c20
    have r22 := w_m1.at (a := 187) (k := 16) rfl
    exact ⟨w_m1, f_m1, _, rfl, (by show (((-1 : Int) = -1 ∨ (-1 : Int) = -2) ∧ ((m1.1 187 16)).toInt = (m.1 187 16).toInt) ∨ (0 ≤ (-1 : Int) ∧ ((m1.1 187 16)).toInt = 3); omega)⟩
set_option maxHeartbeats 4000000 in
theorem n_X12_spread {ad : Nat → Nat} {d : Nat} {m : Wm} (w : WT m) : Ct ad μX12_spread (d + 170) [.ref (ad 187)] m (fun r m' => WT m' ∧ Fx (RS [20, 22, 26, 28, 33]) m m' ∧ ∃ v : Int32, r = some (.int v) ∧ (((m.1 187 1).toInt = 0 ∧ (m'.1 187 16).toInt = 0) ∨ ((m.1 187 1).toInt ≠ 0 ∧ (m'.1 187 16).toInt = 2))) := by
  have f : Fx (RS [20, 22, 26, 28, 33]) m m := Fx.rf
  refine v_X12_spread  ?_
  have w1 : WT (uI m 187 17 (0 : Int32)) := w.n rfl
  have f1 : Fx (RS [20, 22, 26, 28, 33]) m (uI m 187 17 (0 : Int32)) := f.i rfl
  refine (s_X12_spreadNow w1).to ?_
  rintro _ m1 ⟨w_m1, g2, v2, rfl⟩
  have f_m1 : Fx (RS [20, 22, 26, 28, 33]) m m1 := f1.tr g2 (RS_sub rfl)
  have e3 : (m1.1 187 16).toInt = ((m.1 187 16)).toInt := congrArg _ (g2.at (a := 187) (k := 16) (by decide))
  have e4 : (m1.1 187 1).toInt = ((m.1 187 1)).toInt := congrArg _ (g2.at (a := 187) (k := 1) (by decide))
  have e5 : (m1.1 187 0).toInt = ((m.1 187 0)).toInt := congrArg _ (g2.at (a := 187) (k := 0) (by decide))
  refine ⟨v2, rfl, ?_⟩
  refine ⟨?_, ?_⟩
  · intro c6
    have r7 := w_m1.at (a := 187) (k := 1) rfl
    have c8 : (m1.1 187 1) ≤ (0 : Int32) := c6
    have k9 := y_ler (n := 0) rfl c8
    have w10 : WT (uI m1 187 16 (0 : Int32)) := w_m1.t rfl (by show (0 : Int) ≤ (0 : Int); omega) (by show (0 : Int) ≤ 16; omega)
    have f10 : Fx (RS [20, 22, 26, 28, 33]) m (uI m1 187 16 (0 : Int32)) := f_m1.i rfl
    exact ⟨w10, f10, _, rfl, (by show ((m.1 187 1).toInt = 0 ∧ (0 : Int) = 0) ∨ ((m.1 187 1).toInt ≠ 0 ∧ (0 : Int) = 2); omega)⟩
  · intro c11
    have r12 := w_m1.at (a := 187) (k := 1) rfl
    have c13 : ¬ (m1.1 187 1) ≤ (0 : Int32) := c11
    have k14 := y_nler (n := 0) rfl c13
    have w15 : WT (uI m1 187 16 (0 : Int32)) := w_m1.t rfl (by show (0 : Int) ≤ (0 : Int); omega) (by show (0 : Int) ≤ 16; omega)
    have f15 : Fx (RS [20, 22, 26, 28, 33]) m (uI m1 187 16 (0 : Int32)) := f_m1.i rfl
    refine (s_X12_tell w15 (by show (0 : Int) ≤ 15; omega)).to ?_
    rintro _ m3 ⟨w_m3, g16, rfl, p17⟩
    have f_m3 : Fx (RS [20, 22, 26, 28, 33]) m m3 := f15.tr g16 (RS_sub rfl)
    have p18 : (m3.1 187 16).toInt = (0 : Int) + 1 := p17
    clear p17
    have e19 : (m3.1 187 1).toInt = ((m1.1 187 1)).toInt := congrArg _ (g16.at (a := 187) (k := 1) (by decide))
    have e20 : (m3.1 187 0).toInt = ((m1.1 187 0)).toInt := congrArg _ (g16.at (a := 187) (k := 0) (by decide))
    refine ⟨rfl, ?_⟩
    have r21 := w_m3.at (a := 187) (k := 16) rfl
    refine (s_X12_tell w_m3 (by show ((m3.1 187 16)).toInt ≤ 15; omega)).to ?_
    rintro _ m4 ⟨w_m4, g22, rfl, p23⟩
    have f_m4 : Fx (RS [20, 22, 26, 28, 33]) m m4 := f_m3.tr g22 (RS_sub rfl)
    have p24 : (m4.1 187 16).toInt = ((m3.1 187 16)).toInt + 1 := p23
    clear p23
    have e25 : (m4.1 187 1).toInt = ((m3.1 187 1)).toInt := congrArg _ (g22.at (a := 187) (k := 1) (by decide))
    have e26 : (m4.1 187 0).toInt = ((m3.1 187 0)).toInt := congrArg _ (g22.at (a := 187) (k := 0) (by decide))
    refine ⟨rfl, ?_⟩
    have r27 := w_m4.at (a := 187) (k := 16) rfl
    exact ⟨w_m4, f_m4, _, rfl, (by show ((m.1 187 1).toInt = 0 ∧ ((m4.1 187 16)).toInt = 0) ∨ ((m.1 187 1).toInt ≠ 0 ∧ ((m4.1 187 16)).toInt = 2); omega)⟩
set_option maxHeartbeats 4000000 in
theorem n_X12_rest {ad : Nat → Nat} {d : Nat} {m : Wm} (w : WT m) : Ct ad μX12_rest (d + 178) [.ref (ad 187)] m (fun r m' => WT m' ∧ Fx (RS [20, 22, 24, 26, 28, 34, 35, 49]) m m' ∧ ∃ v : Int32, r = some (.int v) ∧ (((v.toInt = -1 ∨ v.toInt = -3) ∧ (m'.1 187 16).toInt = (m.1 187 16).toInt) ∨ (0 ≤ v.toInt ∧ (m'.1 187 16).toInt = 2))) := by
  have f : Fx (RS [20, 22, 24, 26, 28, 34, 35, 49]) m m := Fx.rf
  refine v_X12_rest  ?_
  refine ⟨?_, ?_⟩
  · intro c1
    have r2 := w.at (a := 187) (k := 11) rfl
    have c3 : ¬ (m.1 187 11) = (0 : Int32) := c1
    have k4 := y_ner (n := 0) rfl c3
    have w5 : WT (uI m 187 17 (0 : Int32)) := w.n rfl
    have f5 : Fx (RS [20, 22, 24, 26, 28, 34, 35, 49]) m (uI m 187 17 (0 : Int32)) := f.i rfl
    refine (s_X12_findRest w5).to ?_
    rintro _ m1 ⟨w_m1, g6, v2, rfl, p8, p9, p7⟩
    have f_m1 : Fx (RS [20, 22, 24, 26, 28, 34, 35, 49]) m m1 := f5.tr g6 (RS_sub rfl)
    have p10 : v2.toInt = 0 ∨ (1 ≤ (m1.1 187 46).toInt ∧ (m1.1 187 45).toInt + (m1.1 187 46).toInt ≤ 2000) := p7
    clear p7
    have e11 : (m1.1 187 16).toInt = ((m.1 187 16)).toInt := congrArg _ (g6.at (a := 187) (k := 16) (by decide))
    have e12 : (m1.1 187 1).toInt = ((m.1 187 1)).toInt := congrArg _ (g6.at (a := 187) (k := 1) (by decide))
    have e13 : (m1.1 187 0).toInt = ((m.1 187 0)).toInt := congrArg _ (g6.at (a := 187) (k := 0) (by decide))
    refine ⟨v2, rfl, ?_⟩
    refine ⟨?_, ?_⟩
    · intro c14
      have k15 := y_ner (n := 0) rfl c14
      have r16 := w_m1.at (a := 187) (k := 45) rfl
      refine (s_X12_load w_m1 (by show (0 : Int) ≤ ((m1.1 187 45)).toInt; omega) (by show ((m1.1 187 45)).toInt ≤ (2999 : Int); omega)).to ?_
      rintro _ m3 ⟨w_m3, g17, rfl⟩
      have f_m3 : Fx (RS [20, 22, 24, 26, 28, 34, 35, 49]) m m3 := f_m1.tr g17 (RS_sub rfl)
      have e18 : (m3.1 187 16).toInt = ((m1.1 187 16)).toInt := congrArg _ (g17.at (a := 187) (k := 16) (by decide))
      have e19 : (m3.1 187 1).toInt = ((m1.1 187 1)).toInt := congrArg _ (g17.at (a := 187) (k := 1) (by decide))
      have e20 : (m3.1 187 0).toInt = ((m1.1 187 0)).toInt := congrArg _ (g17.at (a := 187) (k := 0) (by decide))
      refine ⟨rfl, ?_⟩
      refine (s_X12_sumOfAll w_m3).to ?_
      rintro _ m4 ⟨w_m4, g21, v5, rfl⟩
      have f_m4 : Fx (RS [20, 22, 24, 26, 28, 34, 35, 49]) m m4 := f_m3.tr g21 (RS_sub rfl)
      have e22 : (m4.1 187 16).toInt = ((m3.1 187 16)).toInt := congrArg _ (g21.at (a := 187) (k := 16) (by decide))
      have e23 : (m4.1 187 1).toInt = ((m3.1 187 1)).toInt := congrArg _ (g21.at (a := 187) (k := 1) (by decide))
      have e24 : (m4.1 187 0).toInt = ((m3.1 187 0)).toInt := congrArg _ (g21.at (a := 187) (k := 0) (by decide))
      refine ⟨v5, rfl, ?_⟩
      refine (s_X12_bring_204 w_m4 (by show (0 : Int) ≤ (0 : Int); omega) (by show (0 : Int) ≤ (0 : Int); omega)).to ?_
      rintro _ m6 ⟨w_m6, g25, rfl⟩
      have f_m6 : Fx (RS [20, 22, 24, 26, 28, 34, 35, 49]) m m6 := f_m4.tr g25 (RS_sub rfl)
      have e26 : (m6.1 187 16).toInt = ((m4.1 187 16)).toInt := congrArg _ (g25.at (a := 187) (k := 16) (by decide))
      have e27 : (m6.1 187 1).toInt = ((m4.1 187 1)).toInt := congrArg _ (g25.at (a := 187) (k := 1) (by decide))
      have e28 : (m6.1 187 0).toInt = ((m4.1 187 0)).toInt := congrArg _ (g25.at (a := 187) (k := 0) (by decide))
      refine ⟨rfl, ?_⟩
      have w29 : WT (uI m6 187 16 (0 : Int32)) := w_m6.t rfl (by show (0 : Int) ≤ (0 : Int); omega) (by show (0 : Int) ≤ 16; omega)
      have f29 : Fx (RS [20, 22, 24, 26, 28, 34, 35, 49]) m (uI m6 187 16 (0 : Int32)) := f_m6.i rfl
      refine (s_X12_tell w29 (by show (0 : Int) ≤ 15; omega)).to ?_
      rintro _ m7 ⟨w_m7, g30, rfl, p31⟩
      have f_m7 : Fx (RS [20, 22, 24, 26, 28, 34, 35, 49]) m m7 := f29.tr g30 (RS_sub rfl)
      have p32 : (m7.1 187 16).toInt = (0 : Int) + 1 := p31
      clear p31
      have e33 : (m7.1 187 1).toInt = ((m6.1 187 1)).toInt := congrArg _ (g30.at (a := 187) (k := 1) (by decide))
      have e34 : (m7.1 187 0).toInt = ((m6.1 187 0)).toInt := congrArg _ (g30.at (a := 187) (k := 0) (by decide))
      refine ⟨rfl, ?_⟩
      have r35 := w_m7.at (a := 187) (k := 16) rfl
      refine (s_X12_tell w_m7 (by show ((m7.1 187 16)).toInt ≤ 15; omega)).to ?_
      rintro _ m8 ⟨w_m8, g36, rfl, p37⟩
      have f_m8 : Fx (RS [20, 22, 24, 26, 28, 34, 35, 49]) m m8 := f_m7.tr g36 (RS_sub rfl)
      have p38 : (m8.1 187 16).toInt = ((m7.1 187 16)).toInt + 1 := p37
      clear p37
      have e39 : (m8.1 187 1).toInt = ((m7.1 187 1)).toInt := congrArg _ (g36.at (a := 187) (k := 1) (by decide))
      have e40 : (m8.1 187 0).toInt = ((m7.1 187 0)).toInt := congrArg _ (g36.at (a := 187) (k := 0) (by decide))
      refine ⟨rfl, ?_⟩
      have r41 := w_m8.at (a := 187) (k := 45) rfl
      have r42 := w_m8.at (a := 187) (k := 16) rfl
      exact ⟨w_m8, f_m8, _, rfl, (by show ((((m8.1 187 45)).toInt = -1 ∨ ((m8.1 187 45)).toInt = -3) ∧ ((m8.1 187 16)).toInt = (m.1 187 16).toInt) ∨ (0 ≤ ((m8.1 187 45)).toInt ∧ ((m8.1 187 16)).toInt = 2); omega)⟩
    · intro c43
      have k44 := y_eqr (n := 0) rfl c43
      have r45 := w_m1.at (a := 187) (k := 16) rfl
      exact ⟨w_m1, f_m1, _, rfl, (by show (((-3 : Int) = -1 ∨ (-3 : Int) = -3) ∧ ((m1.1 187 16)).toInt = (m.1 187 16).toInt) ∨ (0 ≤ (-3 : Int) ∧ ((m1.1 187 16)).toInt = 2); omega)⟩
  · intro c46
    have r47 := w.at (a := 187) (k := 11) rfl
    have c48 : (m.1 187 11) = (0 : Int32) := c46
    have k49 := y_eqr (n := 0) rfl c48
    have w50 : WT (uI m 187 17 (0 : Int32)) := w.n rfl
    have f50 : Fx (RS [20, 22, 24, 26, 28, 34, 35, 49]) m (uI m 187 17 (0 : Int32)) := f.i rfl
    have r51 := w.at (a := 187) (k := 16) rfl
    exact ⟨w50, f50, _, rfl, (by show (((-1 : Int) = -1 ∨ (-1 : Int) = -3) ∧ ((m.1 187 16)).toInt = (m.1 187 16).toInt) ∨ (0 ≤ (-1 : Int) ∧ ((m.1 187 16)).toInt = 2); omega)⟩
set_option maxHeartbeats 4000000 in
theorem nl_X12_mean {ad : Nat → Nat} {d : Nat} {m0 : Wm}  : ∀ n : Nat, (∀ (m : Wm) (x1 x2 x5 : Int32) (y3 : Int64), WT m → Fx (RS [20, 22, 24, 26, 28, 34, 35, 49]) m0 m → (0 : Int) ≤ x1.toInt → x1.toInt ≤ (7 : Int) → (0 : Int) ≤ x2.toInt → x2.toInt ≤ (3 : Int) → (0 : Int) ≤ x5.toInt → x5.toInt ≤ (2000 : Int) → (1 ≤ (m.1 187 46).toInt) → ((m.1 187 45).toInt + (m.1 187 46).toInt ≤ 2000) → 2001 - x5.toInt < (n : Int) → AW ad E0 μX12_mean (d + 178) (fun r m' => WT m' ∧ Fx (RS [20, 22, 24, 26, 28, 34, 35, 49]) m0 m' ∧ ∃ v : Int32, r = some (.int v) ∧ (((v.toInt = -1 ∨ v.toInt = -3) ∧ (m'.1 187 16).toInt = (m0.1 187 16).toInt) ∨ (0 ≤ v.toInt ∧ (m'.1 187 16).toInt = 2))) 48 [(0, .ref (ad 187)), (1, .int x1), (2, .int x2), (3, .long y3), (5, .int x5)] [] m) := by
  intro n
  induction n with
  | zero =>
    intros
    exfalso
    omega
  | succ n ih =>
    intro m x1 x2 x5 y3 w f j1 j2 j3 j4 j5 j6 j7 j8 hn
    refine g_X12_mean_48  ?_
    refine ⟨?_, ?_⟩
    · intro c1
      have r2 := w.at (a := 187) (k := 45) rfl
      have r3 := w.at (a := 187) (k := 46) rfl
      have t4 := ti_add (x := (m.1 187 45)) (y := (m.1 187 46)) (by omega)
      have k5 := z_le c1
      have w6 : WT (uI m 187 16 (0 : Int32)) := w.t rfl (by show (0 : Int) ≤ (0 : Int); omega) (by show (0 : Int) ≤ 16; omega)
      have f6 : Fx (RS [20, 22, 24, 26, 28, 34, 35, 49]) m0 (uI m 187 16 (0 : Int32)) := f.i rfl
      refine (s_X12_tellPart w6 (wide_ne (by show 1 ≤ ((m.1 187 46)).toInt; omega)) (by show (0 : Int) ≤ 14; omega)).to ?_
      rintro _ m1 ⟨w_m1, g7, rfl, p8⟩
      have f_m1 : Fx (RS [20, 22, 24, 26, 28, 34, 35, 49]) m0 m1 := f6.tr g7 (RS_sub rfl)
      have p9 : (m1.1 187 16).toInt = (0 : Int) + 2 := p8
      clear p8
      have e10 : (m1.1 187 45).toInt = ((m.1 187 45)).toInt := congrArg _ (g7.at (a := 187) (k := 45) (by decide))
      have e11 : (m1.1 187 46).toInt = ((m.1 187 46)).toInt := congrArg _ (g7.at (a := 187) (k := 46) (by decide))
      have e12 : (m1.1 187 1).toInt = ((m.1 187 1)).toInt := congrArg _ (g7.at (a := 187) (k := 1) (by decide))
      have e13 : (m1.1 187 0).toInt = ((m.1 187 0)).toInt := congrArg _ (g7.at (a := 187) (k := 0) (by decide))
      refine ⟨rfl, ?_⟩
      have r14 := w_m1.at (a := 187) (k := 16) rfl
      exact ⟨w_m1, f_m1, _, rfl, (by show (((0 : Int) = -1 ∨ (0 : Int) = -3) ∧ ((m1.1 187 16)).toInt = (m0.1 187 16).toInt) ∨ (0 ≤ (0 : Int) ∧ ((m1.1 187 16)).toInt = 2); omega)⟩
    · intro c15
      have r16 := w.at (a := 187) (k := 45) rfl
      have r17 := w.at (a := 187) (k := 46) rfl
      have t18 := ti_add (x := (m.1 187 45)) (y := (m.1 187 46)) (by omega)
      have k19 := z_nle c15
      refine (s_X12_skillIn w (by show (0 : Int) ≤ (x5).toInt; omega) (by show (x5).toInt ≤ (2999 : Int); omega) (by show (0 : Int) ≤ (x1).toInt; omega) (by show (x1).toInt ≤ (7 : Int); omega) (by show (0 : Int) ≤ (x2).toInt; omega) (by show (x2).toInt ≤ (3 : Int); omega)).to ?_
      rintro _ m2 ⟨w_m2, g20, v3, rfl⟩
      have f_m2 : Fx (RS [20, 22, 24, 26, 28, 34, 35, 49]) m0 m2 := f.tr g20 (RS_sub rfl)
      have e21 : (m2.1 187 16).toInt = ((m.1 187 16)).toInt := congrArg _ (g20.at (a := 187) (k := 16) (by decide))
      have e22 : (m2.1 187 45).toInt = ((m.1 187 45)).toInt := congrArg _ (g20.at (a := 187) (k := 45) (by decide))
      have e23 : (m2.1 187 46).toInt = ((m.1 187 46)).toInt := congrArg _ (g20.at (a := 187) (k := 46) (by decide))
      have e24 : (m2.1 187 1).toInt = ((m.1 187 1)).toInt := congrArg _ (g20.at (a := 187) (k := 1) (by decide))
      have e25 : (m2.1 187 0).toInt = ((m.1 187 0)).toInt := congrArg _ (g20.at (a := 187) (k := 0) (by decide))
      refine ⟨v3, rfl, ?_⟩
      have t26 := ti_addc (x := x5) (y := (1 : Int32)) (c := 1) rfl (by omega)
      have r27 := w_m2.at (a := 187) (k := 46) rfl
      have r28 := w_m2.at (a := 187) (k := 45) rfl
      exact ih _ _ _ _ _ w_m2 f_m2 (by show (0 : Int) ≤ (x1).toInt; omega) (by show (x1).toInt ≤ (7 : Int); omega) (by show (0 : Int) ≤ (x2).toInt; omega) (by show (x2).toInt ≤ (3 : Int); omega) (by show (0 : Int) ≤ ((x5 + (1 : Int32))).toInt; omega) (by show ((x5 + (1 : Int32))).toInt ≤ (2000 : Int); omega) (by show 1 ≤ ((m2.1 187 46)).toInt; omega) (by show ((m2.1 187 45)).toInt + ((m2.1 187 46)).toInt ≤ 2000; omega) (by show 2001 - ((x5 + (1 : Int32))).toInt < _; omega)
set_option maxHeartbeats 4000000 in
theorem n_X12_mean {ad : Nat → Nat} {d : Nat} {m : Wm} {x1 x2 : Int32} (w : WT m) : Ct ad μX12_mean (d + 178) [.ref (ad 187), .int x1, .int x2] m (fun r m' => WT m' ∧ Fx (RS [20, 22, 24, 26, 28, 34, 35, 49]) m m' ∧ ∃ v : Int32, r = some (.int v) ∧ (((v.toInt = -1 ∨ v.toInt = -3) ∧ (m'.1 187 16).toInt = (m.1 187 16).toInt) ∨ (0 ≤ v.toInt ∧ (m'.1 187 16).toInt = 2))) := by
  have f : Fx (RS [20, 22, 24, 26, 28, 34, 35, 49]) m m := Fx.rf
  refine v_X12_mean  ?_
  have w1 : WT (uI m 187 17 (0 : Int32)) := w.n rfl
  have f1 : Fx (RS [20, 22, 24, 26, 28, 34, 35, 49]) m (uI m 187 17 (0 : Int32)) := f.i rfl
  refine (s_X12_isSide w1).to ?_
  rintro _ m1 ⟨w_m1, g2, v2, rfl, p4, p5, p3⟩
  have f_m1 : Fx (RS [20, 22, 24, 26, 28, 34, 35, 49]) m m1 := f1.tr g2 (RS_sub rfl)
  have p6 : (v2.toInt = 0 ∧ ((x1).toInt < 0 ∨ ((m.1 187 1)).toInt ≤ (x1).toInt)) ∨ (v2.toInt = 1 ∧ 0 ≤ (x1).toInt ∧ (x1).toInt < ((m.1 187 1)).toInt) := p3
  clear p3
  have e7 : (m1.1 187 16).toInt = ((m.1 187 16)).toInt := congrArg _ (g2.at (a := 187) (k := 16) (by decide))
  have e8 : (m1.1 187 45).toInt = ((m.1 187 45)).toInt := congrArg _ (g2.at (a := 187) (k := 45) (by decide))
  have e9 : (m1.1 187 46).toInt = ((m.1 187 46)).toInt := congrArg _ (g2.at (a := 187) (k := 46) (by decide))
  have e10 : (m1.1 187 1).toInt = ((m.1 187 1)).toInt := congrArg _ (g2.at (a := 187) (k := 1) (by decide))
  have e11 : (m1.1 187 0).toInt = ((m.1 187 0)).toInt := congrArg _ (g2.at (a := 187) (k := 0) (by decide))
  refine ⟨v2, rfl, ?_⟩
  refine ⟨?_, ?_⟩
  · intro c12
    have k13 := y_eqr (n := 0) rfl c12
    have r14 := w_m1.at (a := 187) (k := 16) rfl
    exact ⟨w_m1, f_m1, _, rfl, (by show (((-1 : Int) = -1 ∨ (-1 : Int) = -3) ∧ ((m1.1 187 16)).toInt = (m.1 187 16).toInt) ∨ (0 ≤ (-1 : Int) ∧ ((m1.1 187 16)).toInt = 2); omega)⟩
  · intro c15
    have k16 := y_ner (n := 0) rfl c15
    have r17 := w.at (a := 187) (k := 1) rfl
    refine (s_X12_isArt w_m1).to ?_
    rintro _ m3 ⟨w_m3, g18, v4, rfl, p20, p21, p19⟩
    have f_m3 : Fx (RS [20, 22, 24, 26, 28, 34, 35, 49]) m m3 := f_m1.tr g18 (RS_sub rfl)
    have p22 : (v4.toInt = 0 ∧ ((x2).toInt < 0 ∨ ((m1.1 187 0)).toInt ≤ (x2).toInt)) ∨ (v4.toInt = 1 ∧ 0 ≤ (x2).toInt ∧ (x2).toInt < ((m1.1 187 0)).toInt) := p19
    clear p19
    have e23 : (m3.1 187 16).toInt = ((m1.1 187 16)).toInt := congrArg _ (g18.at (a := 187) (k := 16) (by decide))
    have e24 : (m3.1 187 45).toInt = ((m1.1 187 45)).toInt := congrArg _ (g18.at (a := 187) (k := 45) (by decide))
    have e25 : (m3.1 187 46).toInt = ((m1.1 187 46)).toInt := congrArg _ (g18.at (a := 187) (k := 46) (by decide))
    have e26 : (m3.1 187 1).toInt = ((m1.1 187 1)).toInt := congrArg _ (g18.at (a := 187) (k := 1) (by decide))
    have e27 : (m3.1 187 0).toInt = ((m1.1 187 0)).toInt := congrArg _ (g18.at (a := 187) (k := 0) (by decide))
    refine ⟨v4, rfl, ?_⟩
    refine ⟨?_, ?_⟩
    · intro c28
      have k29 := y_eqr (n := 0) rfl c28
      have r30 := w_m3.at (a := 187) (k := 16) rfl
      exact ⟨w_m3, f_m3, _, rfl, (by show (((-1 : Int) = -1 ∨ (-1 : Int) = -3) ∧ ((m3.1 187 16)).toInt = (m.1 187 16).toInt) ∨ (0 ≤ (-1 : Int) ∧ ((m3.1 187 16)).toInt = 2); omega)⟩
    · intro c31
      have k32 := y_ner (n := 0) rfl c31
      have r33 := w_m1.at (a := 187) (k := 0) rfl
      refine ⟨?_, ?_⟩
      · intro c34
        have r35 := w_m3.at (a := 187) (k := 11) rfl
        have k36 := y_ner (n := 0) rfl c34
        refine (s_X12_findRest w_m3).to ?_
        rintro _ m5 ⟨w_m5, g37, v6, rfl, p39, p40, p38⟩
        have f_m5 : Fx (RS [20, 22, 24, 26, 28, 34, 35, 49]) m m5 := f_m3.tr g37 (RS_sub rfl)
        have p41 : v6.toInt = 0 ∨ (1 ≤ (m5.1 187 46).toInt ∧ (m5.1 187 45).toInt + (m5.1 187 46).toInt ≤ 2000) := p38
        clear p38
        have e42 : (m5.1 187 16).toInt = ((m3.1 187 16)).toInt := congrArg _ (g37.at (a := 187) (k := 16) (by decide))
        have e43 : (m5.1 187 1).toInt = ((m3.1 187 1)).toInt := congrArg _ (g37.at (a := 187) (k := 1) (by decide))
        have e44 : (m5.1 187 0).toInt = ((m3.1 187 0)).toInt := congrArg _ (g37.at (a := 187) (k := 0) (by decide))
        refine ⟨v6, rfl, ?_⟩
        refine ⟨?_, ?_⟩
        · intro c45
          have k46 := y_ner (n := 0) rfl c45
          have r47 := w_m5.at (a := 187) (k := 45) rfl
          have r48 := w_m5.at (a := 187) (k := 46) rfl
          exact (nl_X12_mean (m0 := m) 1000000) _ _ _ _ _ w_m5 f_m5 (by show (0 : Int) ≤ (x1).toInt; omega) (by show (x1).toInt ≤ (7 : Int); omega) (by show (0 : Int) ≤ (x2).toInt; omega) (by show (x2).toInt ≤ (3 : Int); omega) (by show (0 : Int) ≤ ((m5.1 187 45)).toInt; omega) (by show ((m5.1 187 45)).toInt ≤ (2000 : Int); omega) (by show 1 ≤ ((m5.1 187 46)).toInt; omega) (by show ((m5.1 187 45)).toInt + ((m5.1 187 46)).toInt ≤ 2000; omega) (by show 2001 - ((m5.1 187 45)).toInt < _; omega)
        · intro c49
          have k50 := y_eqr (n := 0) rfl c49
          have r51 := w_m5.at (a := 187) (k := 16) rfl
          exact ⟨w_m5, f_m5, _, rfl, (by show (((-3 : Int) = -1 ∨ (-3 : Int) = -3) ∧ ((m5.1 187 16)).toInt = (m.1 187 16).toInt) ∨ (0 ≤ (-3 : Int) ∧ ((m5.1 187 16)).toInt = 2); omega)⟩
      · intro c52
        have r53 := w_m3.at (a := 187) (k := 11) rfl
        have k54 := y_eqr (n := 0) rfl c52
        have r55 := w_m3.at (a := 187) (k := 16) rfl
        exact ⟨w_m3, f_m3, _, rfl, (by show (((-1 : Int) = -1 ∨ (-1 : Int) = -3) ∧ ((m3.1 187 16)).toInt = (m.1 187 16).toInt) ∨ (0 ≤ (-1 : Int) ∧ ((m3.1 187 16)).toInt = 2); omega)⟩
set_option maxHeartbeats 4000000 in
theorem n_X12_wins {ad : Nat → Nat} {d : Nat} {m : Wm} {x1 x2 x3 : Int32} (w : WT m) (i1 : (m.1 187 11).toInt = 0 ∨ 1 ≤ (m.1 187 10).toInt) : Ct ad μX12_wins (d + 191) [.ref (ad 187), .int x1, .int x2, .int x3] m (fun r m' => WT m' ∧ Fx (RS [20, 22, 24, 26, 28, 36, 37, 49]) m m' ∧ ∃ v : Int32, r = some (.int v) ∧ ((v.toInt = 0 ∧ (0 ≤ x1.toInt ∧ x1.toInt < (m.1 187 1).toInt) ∧ (1 ≤ x2.toInt ∧ x2.toInt ≤ 6) ∧ (0 ≤ x3.toInt ∧ x3.toInt ≤ x2.toInt) ∧ (m.1 187 11).toInt ≠ 0) ∨ (v.toInt = -1 ∧ ¬ ((0 ≤ x1.toInt ∧ x1.toInt < (m.1 187 1).toInt) ∧ (1 ≤ x2.toInt ∧ x2.toInt ≤ 6) ∧ (0 ≤ x3.toInt ∧ x3.toInt ≤ x2.toInt) ∧ (m.1 187 11).toInt ≠ 0))) ∧ ((v.toInt = -1 ∧ (m'.1 187 16).toInt = (m.1 187 16).toInt) ∨ (0 ≤ v.toInt ∧ (m'.1 187 16).toInt = 2))) := by
  have f : Fx (RS [20, 22, 24, 26, 28, 36, 37, 49]) m m := Fx.rf
  refine v_X12_wins  ?_
  have w1 : WT (uI m 187 17 (0 : Int32)) := w.n rfl
  have f1 : Fx (RS [20, 22, 24, 26, 28, 36, 37, 49]) m (uI m 187 17 (0 : Int32)) := f.i rfl
  refine (s_X12_isSide w1).to ?_
  rintro _ m1 ⟨w_m1, g2, v2, rfl, p4, p5, p3⟩
  have f_m1 : Fx (RS [20, 22, 24, 26, 28, 36, 37, 49]) m m1 := f1.tr g2 (RS_sub rfl)
  have p6 : (v2.toInt = 0 ∧ ((x1).toInt < 0 ∨ ((m.1 187 1)).toInt ≤ (x1).toInt)) ∨ (v2.toInt = 1 ∧ 0 ≤ (x1).toInt ∧ (x1).toInt < ((m.1 187 1)).toInt) := p3
  clear p3
  have e7 : (m1.1 187 11).toInt = ((m.1 187 11)).toInt := congrArg _ (g2.at (a := 187) (k := 11) (by decide))
  have e8 : (m1.1 187 10).toInt = ((m.1 187 10)).toInt := congrArg _ (g2.at (a := 187) (k := 10) (by decide))
  have e9 : (m1.1 187 16).toInt = ((m.1 187 16)).toInt := congrArg _ (g2.at (a := 187) (k := 16) (by decide))
  have e10 : (m1.1 187 1).toInt = ((m.1 187 1)).toInt := congrArg _ (g2.at (a := 187) (k := 1) (by decide))
  have e11 : (m1.1 187 0).toInt = ((m.1 187 0)).toInt := congrArg _ (g2.at (a := 187) (k := 0) (by decide))
  refine ⟨v2, rfl, ?_⟩
  refine ⟨?_, ?_⟩
  · intro c12
    have k13 := y_eqr (n := 0) rfl c12
    have r14 := w_m1.at (a := 187) (k := 16) rfl
    exact ⟨w_m1, f_m1, _, rfl, (by show ((-1 : Int) = 0 ∧ (0 ≤ x1.toInt ∧ x1.toInt < (m.1 187 1).toInt) ∧ (1 ≤ x2.toInt ∧ x2.toInt ≤ 6) ∧ (0 ≤ x3.toInt ∧ x3.toInt ≤ x2.toInt) ∧ (m.1 187 11).toInt ≠ 0) ∨ ((-1 : Int) = -1 ∧ ¬ ((0 ≤ x1.toInt ∧ x1.toInt < (m.1 187 1).toInt) ∧ (1 ≤ x2.toInt ∧ x2.toInt ≤ 6) ∧ (0 ≤ x3.toInt ∧ x3.toInt ≤ x2.toInt) ∧ (m.1 187 11).toInt ≠ 0)); omega), (by show ((-1 : Int) = -1 ∧ ((m1.1 187 16)).toInt = (m.1 187 16).toInt) ∨ (0 ≤ (-1 : Int) ∧ ((m1.1 187 16)).toInt = 2); omega)⟩
  · intro c15
    have k16 := y_ner (n := 0) rfl c15
    have r17 := w.at (a := 187) (k := 1) rfl
    refine (s_X12_in (x := x2) (lo := (1 : Int32)) (hi := (6 : Int32)) w_m1 rfl rfl).to ?_
    rintro _ m3 ⟨w_m3, g18, v4, rfl, p20, p21, p19⟩
    have f_m3 : Fx (RS [20, 22, 24, 26, 28, 36, 37, 49]) m m3 := f_m1.tr g18 (RS_sub rfl)
    have p22 : (v4.toInt = 0 ∧ ((x2).toInt < (1 : Int) ∨ (6 : Int) < (x2).toInt)) ∨ (v4.toInt = 1 ∧ (1 : Int) ≤ (x2).toInt ∧ (x2).toInt ≤ (6 : Int)) := p19
    clear p19
    have e23 : (m3.1 187 11).toInt = ((m1.1 187 11)).toInt := congrArg _ (g18.at (a := 187) (k := 11) (by decide))
    have e24 : (m3.1 187 10).toInt = ((m1.1 187 10)).toInt := congrArg _ (g18.at (a := 187) (k := 10) (by decide))
    have e25 : (m3.1 187 16).toInt = ((m1.1 187 16)).toInt := congrArg _ (g18.at (a := 187) (k := 16) (by decide))
    have e26 : (m3.1 187 1).toInt = ((m1.1 187 1)).toInt := congrArg _ (g18.at (a := 187) (k := 1) (by decide))
    have e27 : (m3.1 187 0).toInt = ((m1.1 187 0)).toInt := congrArg _ (g18.at (a := 187) (k := 0) (by decide))
    refine ⟨v4, rfl, ?_⟩
    refine ⟨?_, ?_⟩
    · intro c28
      have k29 := y_eqr (n := 0) rfl c28
      have r30 := w_m3.at (a := 187) (k := 16) rfl
      exact ⟨w_m3, f_m3, _, rfl, (by show ((-1 : Int) = 0 ∧ (0 ≤ x1.toInt ∧ x1.toInt < (m.1 187 1).toInt) ∧ (1 ≤ x2.toInt ∧ x2.toInt ≤ 6) ∧ (0 ≤ x3.toInt ∧ x3.toInt ≤ x2.toInt) ∧ (m.1 187 11).toInt ≠ 0) ∨ ((-1 : Int) = -1 ∧ ¬ ((0 ≤ x1.toInt ∧ x1.toInt < (m.1 187 1).toInt) ∧ (1 ≤ x2.toInt ∧ x2.toInt ≤ 6) ∧ (0 ≤ x3.toInt ∧ x3.toInt ≤ x2.toInt) ∧ (m.1 187 11).toInt ≠ 0)); omega), (by show ((-1 : Int) = -1 ∧ ((m3.1 187 16)).toInt = (m.1 187 16).toInt) ∨ (0 ≤ (-1 : Int) ∧ ((m3.1 187 16)).toInt = 2); omega)⟩
    · intro c31
      have k32 := y_ner (n := 0) rfl c31
      refine (s_X12_in (x := x3) (lo := (0 : Int32)) (hi := x2) w_m3 rfl rfl).to ?_
      rintro _ m5 ⟨w_m5, g33, v6, rfl, p35, p36, p34⟩
      have f_m5 : Fx (RS [20, 22, 24, 26, 28, 36, 37, 49]) m m5 := f_m3.tr g33 (RS_sub rfl)
      have p37 : (v6.toInt = 0 ∧ ((x3).toInt < (0 : Int) ∨ (x2).toInt < (x3).toInt)) ∨ (v6.toInt = 1 ∧ (0 : Int) ≤ (x3).toInt ∧ (x3).toInt ≤ (x2).toInt) := p34
      clear p34
      have e38 : (m5.1 187 11).toInt = ((m3.1 187 11)).toInt := congrArg _ (g33.at (a := 187) (k := 11) (by decide))
      have e39 : (m5.1 187 10).toInt = ((m3.1 187 10)).toInt := congrArg _ (g33.at (a := 187) (k := 10) (by decide))
      have e40 : (m5.1 187 16).toInt = ((m3.1 187 16)).toInt := congrArg _ (g33.at (a := 187) (k := 16) (by decide))
      have e41 : (m5.1 187 1).toInt = ((m3.1 187 1)).toInt := congrArg _ (g33.at (a := 187) (k := 1) (by decide))
      have e42 : (m5.1 187 0).toInt = ((m3.1 187 0)).toInt := congrArg _ (g33.at (a := 187) (k := 0) (by decide))
      refine ⟨v6, rfl, ?_⟩
      refine ⟨?_, ?_⟩
      · intro c43
        have k44 := y_eqr (n := 0) rfl c43
        have r45 := w_m5.at (a := 187) (k := 16) rfl
        exact ⟨w_m5, f_m5, _, rfl, (by show ((-1 : Int) = 0 ∧ (0 ≤ x1.toInt ∧ x1.toInt < (m.1 187 1).toInt) ∧ (1 ≤ x2.toInt ∧ x2.toInt ≤ 6) ∧ (0 ≤ x3.toInt ∧ x3.toInt ≤ x2.toInt) ∧ (m.1 187 11).toInt ≠ 0) ∨ ((-1 : Int) = -1 ∧ ¬ ((0 ≤ x1.toInt ∧ x1.toInt < (m.1 187 1).toInt) ∧ (1 ≤ x2.toInt ∧ x2.toInt ≤ 6) ∧ (0 ≤ x3.toInt ∧ x3.toInt ≤ x2.toInt) ∧ (m.1 187 11).toInt ≠ 0)); omega), (by show ((-1 : Int) = -1 ∧ ((m5.1 187 16)).toInt = (m.1 187 16).toInt) ∨ (0 ≤ (-1 : Int) ∧ ((m5.1 187 16)).toInt = 2); omega)⟩
      · intro c46
        have k47 := y_ner (n := 0) rfl c46
        refine ⟨?_, ?_⟩
        · intro c48
          have r49 := w_m5.at (a := 187) (k := 11) rfl
          have k50 := y_ner (n := 0) rfl c48
          have r51 := w_m5.at (a := 187) (k := 10) rfl
          refine (s_X12_chanceOfWins w_m5 (by show (0 : Int) ≤ (x2).toInt; omega) (by show (x2).toInt ≤ (6 : Int); omega) (by show 1 ≤ ((m5.1 187 10)).toInt; omega)).to ?_
          rintro _ m7 ⟨w_m7, g52, w8, rfl⟩
          have f_m7 : Fx (RS [20, 22, 24, 26, 28, 36, 37, 49]) m m7 := f_m5.tr g52 (RS_sub rfl)
          have e53 : (m7.1 187 11).toInt = ((m5.1 187 11)).toInt := congrArg _ (g52.at (a := 187) (k := 11) (by decide))
          have e54 : (m7.1 187 10).toInt = ((m5.1 187 10)).toInt := congrArg _ (g52.at (a := 187) (k := 10) (by decide))
          have e55 : (m7.1 187 16).toInt = ((m5.1 187 16)).toInt := congrArg _ (g52.at (a := 187) (k := 16) (by decide))
          have e56 : (m7.1 187 1).toInt = ((m5.1 187 1)).toInt := congrArg _ (g52.at (a := 187) (k := 1) (by decide))
          have e57 : (m7.1 187 0).toInt = ((m5.1 187 0)).toInt := congrArg _ (g52.at (a := 187) (k := 0) (by decide))
          refine ⟨w8, rfl, ?_⟩
          have w58 : WT (uI m7 187 16 (0 : Int32)) := w_m7.t rfl (by show (0 : Int) ≤ (0 : Int); omega) (by show (0 : Int) ≤ 16; omega)
          have f58 : Fx (RS [20, 22, 24, 26, 28, 36, 37, 49]) m (uI m7 187 16 (0 : Int32)) := f_m7.i rfl
          refine (s_X12_power100 w58 (by show (0 : Int) ≤ (x2).toInt; omega) (by show (x2).toInt ≤ (6 : Int); omega)).to ?_
          rintro _ m9 ⟨w_m9, g59, w10, rfl, p60⟩
          have f_m9 : Fx (RS [20, 22, 24, 26, 28, 36, 37, 49]) m m9 := f58.tr g59 (RS_sub rfl)
          have p61 : w10 ≠ 0 := p60
          clear p60
          have e62 : (m9.1 187 11).toInt = ((m7.1 187 11)).toInt := congrArg _ (g59.at (a := 187) (k := 11) (by decide))
          have e63 : (m9.1 187 10).toInt = ((m7.1 187 10)).toInt := congrArg _ (g59.at (a := 187) (k := 10) (by decide))
          have e64 : (m9.1 187 16).toInt = (0 : Int) := congrArg _ (g59.at (a := 187) (k := 16) (by decide))
          have e65 : (m9.1 187 1).toInt = ((m7.1 187 1)).toInt := congrArg _ (g59.at (a := 187) (k := 1) (by decide))
          have e66 : (m9.1 187 0).toInt = ((m7.1 187 0)).toInt := congrArg _ (g59.at (a := 187) (k := 0) (by decide))
          refine ⟨w10, rfl, ?_⟩
          have r67 := w_m9.at (a := 187) (k := 16) rfl
          refine (s_X12_tellPart w_m9 (by assumption) (by show ((m9.1 187 16)).toInt ≤ 14; omega)).to ?_
          rintro _ m11 ⟨w_m11, g68, rfl, p69⟩
          have f_m11 : Fx (RS [20, 22, 24, 26, 28, 36, 37, 49]) m m11 := f_m9.tr g68 (RS_sub rfl)
          have p70 : (m11.1 187 16).toInt = ((m9.1 187 16)).toInt + 2 := p69
          clear p69
          have e71 : (m11.1 187 11).toInt = ((m9.1 187 11)).toInt := congrArg _ (g68.at (a := 187) (k := 11) (by decide))
          have e72 : (m11.1 187 10).toInt = ((m9.1 187 10)).toInt := congrArg _ (g68.at (a := 187) (k := 10) (by decide))
          have e73 : (m11.1 187 1).toInt = ((m9.1 187 1)).toInt := congrArg _ (g68.at (a := 187) (k := 1) (by decide))
          have e74 : (m11.1 187 0).toInt = ((m9.1 187 0)).toInt := congrArg _ (g68.at (a := 187) (k := 0) (by decide))
          refine ⟨rfl, ?_⟩
          have r75 := w_m11.at (a := 187) (k := 16) rfl
          exact ⟨w_m11, f_m11, _, rfl, (by show ((0 : Int) = 0 ∧ (0 ≤ x1.toInt ∧ x1.toInt < (m.1 187 1).toInt) ∧ (1 ≤ x2.toInt ∧ x2.toInt ≤ 6) ∧ (0 ≤ x3.toInt ∧ x3.toInt ≤ x2.toInt) ∧ (m.1 187 11).toInt ≠ 0) ∨ ((0 : Int) = -1 ∧ ¬ ((0 ≤ x1.toInt ∧ x1.toInt < (m.1 187 1).toInt) ∧ (1 ≤ x2.toInt ∧ x2.toInt ≤ 6) ∧ (0 ≤ x3.toInt ∧ x3.toInt ≤ x2.toInt) ∧ (m.1 187 11).toInt ≠ 0)); omega), (by show ((0 : Int) = -1 ∧ ((m11.1 187 16)).toInt = (m.1 187 16).toInt) ∨ (0 ≤ (0 : Int) ∧ ((m11.1 187 16)).toInt = 2); omega)⟩
        · intro c76
          have r77 := w_m5.at (a := 187) (k := 11) rfl
          have k78 := y_eqr (n := 0) rfl c76
          have r79 := w_m5.at (a := 187) (k := 16) rfl
          exact ⟨w_m5, f_m5, _, rfl, (by show ((-1 : Int) = 0 ∧ (0 ≤ x1.toInt ∧ x1.toInt < (m.1 187 1).toInt) ∧ (1 ≤ x2.toInt ∧ x2.toInt ≤ 6) ∧ (0 ≤ x3.toInt ∧ x3.toInt ≤ x2.toInt) ∧ (m.1 187 11).toInt ≠ 0) ∨ ((-1 : Int) = -1 ∧ ¬ ((0 ≤ x1.toInt ∧ x1.toInt < (m.1 187 1).toInt) ∧ (1 ≤ x2.toInt ∧ x2.toInt ≤ 6) ∧ (0 ≤ x3.toInt ∧ x3.toInt ≤ x2.toInt) ∧ (m.1 187 11).toInt ≠ 0)); omega), (by show ((-1 : Int) = -1 ∧ ((m5.1 187 16)).toInt = (m.1 187 16).toInt) ∨ (0 ≤ (-1 : Int) ∧ ((m5.1 187 16)).toInt = 2); omega)⟩
set_option maxHeartbeats 4000000 in
theorem n_X12_hopes {ad : Nat → Nat} {d : Nat} {m : Wm} {x1 : Int32} (w : WT m) (i1 : (m.1 187 11).toInt = 0 ∨ 1 ≤ (m.1 187 10).toInt) : Ct ad μX12_hopes (d + 191) [.ref (ad 187), .int x1] m (fun r m' => WT m' ∧ Fx (RS [20, 22, 24, 26, 28, 36, 37, 49]) m m' ∧ ∃ v : Int32, r = some (.int v) ∧ ((v.toInt = 0 ∧ (1 ≤ x1.toInt ∧ x1.toInt ≤ 6) ∧ (m.1 187 11).toInt ≠ 0) ∨ (v.toInt = -1 ∧ ¬ ((1 ≤ x1.toInt ∧ x1.toInt ≤ 6) ∧ (m.1 187 11).toInt ≠ 0))) ∧ ((v.toInt = -1 ∧ (m'.1 187 16).toInt = (m.1 187 16).toInt) ∨ (0 ≤ v.toInt ∧ (m'.1 187 16).toInt = 4))) := by
  have f : Fx (RS [20, 22, 24, 26, 28, 36, 37, 49]) m m := Fx.rf
  refine v_X12_hopes  ?_
  have w1 : WT (uI m 187 17 (0 : Int32)) := w.n rfl
  have f1 : Fx (RS [20, 22, 24, 26, 28, 36, 37, 49]) m (uI m 187 17 (0 : Int32)) := f.i rfl
  refine (s_X12_in (x := x1) (lo := (1 : Int32)) (hi := (6 : Int32)) w1 rfl rfl).to ?_
  rintro _ m1 ⟨w_m1, g2, v2, rfl, p4, p5, p3⟩
  have f_m1 : Fx (RS [20, 22, 24, 26, 28, 36, 37, 49]) m m1 := f1.tr g2 (RS_sub rfl)
  have p6 : (v2.toInt = 0 ∧ ((x1).toInt < (1 : Int) ∨ (6 : Int) < (x1).toInt)) ∨ (v2.toInt = 1 ∧ (1 : Int) ≤ (x1).toInt ∧ (x1).toInt ≤ (6 : Int)) := p3
  clear p3
  have e7 : (m1.1 187 11).toInt = ((m.1 187 11)).toInt := congrArg _ (g2.at (a := 187) (k := 11) (by decide))
  have e8 : (m1.1 187 10).toInt = ((m.1 187 10)).toInt := congrArg _ (g2.at (a := 187) (k := 10) (by decide))
  have e9 : (m1.1 187 16).toInt = ((m.1 187 16)).toInt := congrArg _ (g2.at (a := 187) (k := 16) (by decide))
  have e10 : (m1.1 187 1).toInt = ((m.1 187 1)).toInt := congrArg _ (g2.at (a := 187) (k := 1) (by decide))
  have e11 : (m1.1 187 0).toInt = ((m.1 187 0)).toInt := congrArg _ (g2.at (a := 187) (k := 0) (by decide))
  refine ⟨v2, rfl, ?_⟩
  refine ⟨?_, ?_⟩
  · intro c12
    have k13 := y_eqr (n := 0) rfl c12
    have r14 := w_m1.at (a := 187) (k := 16) rfl
    exact ⟨w_m1, f_m1, _, rfl, (by show ((-1 : Int) = 0 ∧ (1 ≤ x1.toInt ∧ x1.toInt ≤ 6) ∧ (m.1 187 11).toInt ≠ 0) ∨ ((-1 : Int) = -1 ∧ ¬ ((1 ≤ x1.toInt ∧ x1.toInt ≤ 6) ∧ (m.1 187 11).toInt ≠ 0)); omega), (by show ((-1 : Int) = -1 ∧ ((m1.1 187 16)).toInt = (m.1 187 16).toInt) ∨ (0 ≤ (-1 : Int) ∧ ((m1.1 187 16)).toInt = 4); omega)⟩
  · intro c15
    have k16 := y_ner (n := 0) rfl c15
    refine ⟨?_, ?_⟩
    · intro c17
      have r18 := w_m1.at (a := 187) (k := 11) rfl
      have k19 := y_ner (n := 0) rfl c17
      have w20 : WT (uI m1 187 48 (256 : Int32)) := w_m1.n rfl
      have f20 : Fx (RS [20, 22, 24, 26, 28, 36, 37, 49]) m (uI m1 187 48 (256 : Int32)) := f_m1.i rfl
      have w21 : WT (uI (uI m1 187 48 (256 : Int32)) 187 49 (0 : Int32)) := w20.n rfl
      have f21 : Fx (RS [20, 22, 24, 26, 28, 36, 37, 49]) m (uI (uI m1 187 48 (256 : Int32)) 187 49 (0 : Int32)) := f20.i rfl
      have r22 := w_m1.at (a := 187) (k := 10) rfl
      refine (s_X12_hopeOf w21 (by show (0 : Int) ≤ (x1).toInt; omega) (by show (x1).toInt ≤ (6 : Int); omega) (by show 1 ≤ ((m1.1 187 10)).toInt; omega)).to ?_
      rintro _ m3 ⟨w_m3, g23, w4, rfl⟩
      have f_m3 : Fx (RS [20, 22, 24, 26, 28, 36, 37, 49]) m m3 := f21.tr g23 (RS_sub rfl)
      have e24 : (m3.1 187 11).toInt = ((m1.1 187 11)).toInt := congrArg _ (g23.at (a := 187) (k := 11) (by decide))
      have e25 : (m3.1 187 10).toInt = ((m1.1 187 10)).toInt := congrArg _ (g23.at (a := 187) (k := 10) (by decide))
      have e26 : (m3.1 187 16).toInt = ((m1.1 187 16)).toInt := congrArg _ (g23.at (a := 187) (k := 16) (by decide))
      have e27 : (m3.1 187 1).toInt = ((m1.1 187 1)).toInt := congrArg _ (g23.at (a := 187) (k := 1) (by decide))
      have e28 : (m3.1 187 0).toInt = ((m1.1 187 0)).toInt := congrArg _ (g23.at (a := 187) (k := 0) (by decide))
      refine ⟨w4, rfl, ?_⟩
      have w29 : WT (uI m3 187 16 (0 : Int32)) := w_m3.t rfl (by show (0 : Int) ≤ (0 : Int); omega) (by show (0 : Int) ≤ 16; omega)
      have f29 : Fx (RS [20, 22, 24, 26, 28, 36, 37, 49]) m (uI m3 187 16 (0 : Int32)) := f_m3.i rfl
      refine (s_X12_power100 w29 (by show (0 : Int) ≤ (x1).toInt; omega) (by show (x1).toInt ≤ (6 : Int); omega)).to ?_
      rintro _ m5 ⟨w_m5, g30, w6, rfl, p31⟩
      have f_m5 : Fx (RS [20, 22, 24, 26, 28, 36, 37, 49]) m m5 := f29.tr g30 (RS_sub rfl)
      have p32 : w6 ≠ 0 := p31
      clear p31
      have e33 : (m5.1 187 11).toInt = ((m3.1 187 11)).toInt := congrArg _ (g30.at (a := 187) (k := 11) (by decide))
      have e34 : (m5.1 187 10).toInt = ((m3.1 187 10)).toInt := congrArg _ (g30.at (a := 187) (k := 10) (by decide))
      have e35 : (m5.1 187 16).toInt = (0 : Int) := congrArg _ (g30.at (a := 187) (k := 16) (by decide))
      have e36 : (m5.1 187 1).toInt = ((m3.1 187 1)).toInt := congrArg _ (g30.at (a := 187) (k := 1) (by decide))
      have e37 : (m5.1 187 0).toInt = ((m3.1 187 0)).toInt := congrArg _ (g30.at (a := 187) (k := 0) (by decide))
      refine ⟨w6, rfl, ?_⟩
      have r38 := w_m5.at (a := 187) (k := 16) rfl
      refine (s_X12_tellPart w_m5 (by assumption) (by show ((m5.1 187 16)).toInt ≤ 14; omega)).to ?_
      rintro _ m7 ⟨w_m7, g39, rfl, p40⟩
      have f_m7 : Fx (RS [20, 22, 24, 26, 28, 36, 37, 49]) m m7 := f_m5.tr g39 (RS_sub rfl)
      have p41 : (m7.1 187 16).toInt = ((m5.1 187 16)).toInt + 2 := p40
      clear p40
      have e42 : (m7.1 187 11).toInt = ((m5.1 187 11)).toInt := congrArg _ (g39.at (a := 187) (k := 11) (by decide))
      have e43 : (m7.1 187 10).toInt = ((m5.1 187 10)).toInt := congrArg _ (g39.at (a := 187) (k := 10) (by decide))
      have e44 : (m7.1 187 1).toInt = ((m5.1 187 1)).toInt := congrArg _ (g39.at (a := 187) (k := 1) (by decide))
      have e45 : (m7.1 187 0).toInt = ((m5.1 187 0)).toInt := congrArg _ (g39.at (a := 187) (k := 0) (by decide))
      refine ⟨rfl, ?_⟩
      have r46 := w_m7.at (a := 187) (k := 16) rfl
      refine (s_X12_tell w_m7 (by show ((m7.1 187 16)).toInt ≤ 15; omega)).to ?_
      rintro _ m8 ⟨w_m8, g47, rfl, p48⟩
      have f_m8 : Fx (RS [20, 22, 24, 26, 28, 36, 37, 49]) m m8 := f_m7.tr g47 (RS_sub rfl)
      have p49 : (m8.1 187 16).toInt = ((m7.1 187 16)).toInt + 1 := p48
      clear p48
      have e50 : (m8.1 187 11).toInt = ((m7.1 187 11)).toInt := congrArg _ (g47.at (a := 187) (k := 11) (by decide))
      have e51 : (m8.1 187 10).toInt = ((m7.1 187 10)).toInt := congrArg _ (g47.at (a := 187) (k := 10) (by decide))
      have e52 : (m8.1 187 1).toInt = ((m7.1 187 1)).toInt := congrArg _ (g47.at (a := 187) (k := 1) (by decide))
      have e53 : (m8.1 187 0).toInt = ((m7.1 187 0)).toInt := congrArg _ (g47.at (a := 187) (k := 0) (by decide))
      refine ⟨rfl, ?_⟩
      have r54 := w_m8.at (a := 187) (k := 16) rfl
      refine (s_X12_tell w_m8 (by show ((m8.1 187 16)).toInt ≤ 15; omega)).to ?_
      rintro _ m9 ⟨w_m9, g55, rfl, p56⟩
      have f_m9 : Fx (RS [20, 22, 24, 26, 28, 36, 37, 49]) m m9 := f_m8.tr g55 (RS_sub rfl)
      have p57 : (m9.1 187 16).toInt = ((m8.1 187 16)).toInt + 1 := p56
      clear p56
      have e58 : (m9.1 187 11).toInt = ((m8.1 187 11)).toInt := congrArg _ (g55.at (a := 187) (k := 11) (by decide))
      have e59 : (m9.1 187 10).toInt = ((m8.1 187 10)).toInt := congrArg _ (g55.at (a := 187) (k := 10) (by decide))
      have e60 : (m9.1 187 1).toInt = ((m8.1 187 1)).toInt := congrArg _ (g55.at (a := 187) (k := 1) (by decide))
      have e61 : (m9.1 187 0).toInt = ((m8.1 187 0)).toInt := congrArg _ (g55.at (a := 187) (k := 0) (by decide))
      refine ⟨rfl, ?_⟩
      have r62 := w_m9.at (a := 187) (k := 16) rfl
      exact ⟨w_m9, f_m9, _, rfl, (by show ((0 : Int) = 0 ∧ (1 ≤ x1.toInt ∧ x1.toInt ≤ 6) ∧ (m.1 187 11).toInt ≠ 0) ∨ ((0 : Int) = -1 ∧ ¬ ((1 ≤ x1.toInt ∧ x1.toInt ≤ 6) ∧ (m.1 187 11).toInt ≠ 0)); omega), (by show ((0 : Int) = -1 ∧ ((m9.1 187 16)).toInt = (m.1 187 16).toInt) ∨ (0 ≤ (0 : Int) ∧ ((m9.1 187 16)).toInt = 4); omega)⟩
    · intro c63
      have r64 := w_m1.at (a := 187) (k := 11) rfl
      have k65 := y_eqr (n := 0) rfl c63
      have r66 := w_m1.at (a := 187) (k := 16) rfl
      exact ⟨w_m1, f_m1, _, rfl, (by show ((-1 : Int) = 0 ∧ (1 ≤ x1.toInt ∧ x1.toInt ≤ 6) ∧ (m.1 187 11).toInt ≠ 0) ∨ ((-1 : Int) = -1 ∧ ¬ ((1 ≤ x1.toInt ∧ x1.toInt ≤ 6) ∧ (m.1 187 11).toInt ≠ 0)); omega), (by show ((-1 : Int) = -1 ∧ ((m1.1 187 16)).toInt = (m.1 187 16).toInt) ∨ (0 ≤ (-1 : Int) ∧ ((m1.1 187 16)).toInt = 4); omega)⟩
set_option maxHeartbeats 4000000 in
theorem nl_X12_all {ad : Nat → Nat} {d : Nat} {m0 : Wm}  : ∀ n : Nat, (∀ (m : Wm) (x1 x2 x3 : Int32), WT m → Fx (RS [20, 22, 24, 26, 28, 34, 35, 49]) m0 m → (0 : Int) ≤ x3.toInt → x3.toInt ≤ (3000 : Int) → (1 ≤ (m.1 187 43).toInt) → 3000 - x3.toInt < (n : Int) → AW ad E0 μX12_all (d + 178) (fun r m' => WT m' ∧ Fx (RS [20, 22, 24, 26, 28, 34, 35, 49]) m0 m' ∧ ∃ v : Int32, r = some (.int v) ∧ ((v.toInt = -3 ∧ (m'.1 187 16).toInt = (m0.1 187 16).toInt) ∨ (0 ≤ v.toInt ∧ (m'.1 187 16).toInt = 3))) 26 [(0, .ref (ad 187)), (1, .int x1), (2, .int x2), (3, .int x3)] [] m) := by
  intro n
  induction n with
  | zero =>
    intros
    exfalso
    omega
  | succ n ih =>
    intro m x1 x2 x3 w f j1 j2 j3 hn
    refine g_X12_all_26  ?_
    refine ⟨?_, ?_⟩
    · intro c1
      have r2 := w.at (a := 187) (k := 43) rfl
      have k3 := z_le c1
      refine (s_X12_bring_204 w (by show (0 : Int) ≤ (0 : Int); omega) (by show (0 : Int) ≤ (0 : Int); omega)).to ?_
      rintro _ m1 ⟨w_m1, g4, rfl⟩
      have f_m1 : Fx (RS [20, 22, 24, 26, 28, 34, 35, 49]) m0 m1 := f.tr g4 (RS_sub rfl)
      have e5 : (m1.1 187 16).toInt = ((m.1 187 16)).toInt := congrArg _ (g4.at (a := 187) (k := 16) (by decide))
      have e6 : (m1.1 187 43).toInt = ((m.1 187 43)).toInt := congrArg _ (g4.at (a := 187) (k := 43) (by decide))
      have e7 : (m1.1 187 1).toInt = ((m.1 187 1)).toInt := congrArg _ (g4.at (a := 187) (k := 1) (by decide))
      have e8 : (m1.1 187 0).toInt = ((m.1 187 0)).toInt := congrArg _ (g4.at (a := 187) (k := 0) (by decide))
      refine ⟨rfl, ?_⟩
      have w9 : WT (uI m1 187 16 (0 : Int32)) := w_m1.t rfl (by show (0 : Int) ≤ (0 : Int); omega) (by show (0 : Int) ≤ 16; omega)
      have f9 : Fx (RS [20, 22, 24, 26, 28, 34, 35, 49]) m0 (uI m1 187 16 (0 : Int32)) := f_m1.i rfl
      refine (s_X12_tell w9 (by show (0 : Int) ≤ 15; omega)).to ?_
      rintro _ m2 ⟨w_m2, g10, rfl, p11⟩
      have f_m2 : Fx (RS [20, 22, 24, 26, 28, 34, 35, 49]) m0 m2 := f9.tr g10 (RS_sub rfl)
      have p12 : (m2.1 187 16).toInt = (0 : Int) + 1 := p11
      clear p11
      have e13 : (m2.1 187 43).toInt = ((m1.1 187 43)).toInt := congrArg _ (g10.at (a := 187) (k := 43) (by decide))
      have e14 : (m2.1 187 1).toInt = ((m1.1 187 1)).toInt := congrArg _ (g10.at (a := 187) (k := 1) (by decide))
      have e15 : (m2.1 187 0).toInt = ((m1.1 187 0)).toInt := congrArg _ (g10.at (a := 187) (k := 0) (by decide))
      refine ⟨rfl, ?_⟩
      have r16 := w_m2.at (a := 187) (k := 16) rfl
      refine (s_X12_tell w_m2 (by show ((m2.1 187 16)).toInt ≤ 15; omega)).to ?_
      rintro _ m3 ⟨w_m3, g17, rfl, p18⟩
      have f_m3 : Fx (RS [20, 22, 24, 26, 28, 34, 35, 49]) m0 m3 := f_m2.tr g17 (RS_sub rfl)
      have p19 : (m3.1 187 16).toInt = ((m2.1 187 16)).toInt + 1 := p18
      clear p18
      have e20 : (m3.1 187 43).toInt = ((m2.1 187 43)).toInt := congrArg _ (g17.at (a := 187) (k := 43) (by decide))
      have e21 : (m3.1 187 1).toInt = ((m2.1 187 1)).toInt := congrArg _ (g17.at (a := 187) (k := 1) (by decide))
      have e22 : (m3.1 187 0).toInt = ((m2.1 187 0)).toInt := congrArg _ (g17.at (a := 187) (k := 0) (by decide))
      refine ⟨rfl, ?_⟩
      refine ⟨?_, ?_⟩
      · have r23 := w_m3.at (a := 187) (k := 43) rfl
        have t24 := ti_subc (x := (m3.1 187 43)) (y := (1 : Int32)) (c := 1) rfl (by omega)
        exact vpi (by omega) (by omega)
      · have r25 := w_m3.at (a := 187) (k := 16) rfl
        refine (s_X12_tell w_m3 (by show ((m3.1 187 16)).toInt ≤ 15; omega)).to ?_
        rintro _ m4 ⟨w_m4, g26, rfl, p27⟩
        have f_m4 : Fx (RS [20, 22, 24, 26, 28, 34, 35, 49]) m0 m4 := f_m3.tr g26 (RS_sub rfl)
        have p28 : (m4.1 187 16).toInt = ((m3.1 187 16)).toInt + 1 := p27
        clear p27
        have e29 : (m4.1 187 43).toInt = ((m3.1 187 43)).toInt := congrArg _ (g26.at (a := 187) (k := 43) (by decide))
        have e30 : (m4.1 187 1).toInt = ((m3.1 187 1)).toInt := congrArg _ (g26.at (a := 187) (k := 1) (by decide))
        have e31 : (m4.1 187 0).toInt = ((m3.1 187 0)).toInt := congrArg _ (g26.at (a := 187) (k := 0) (by decide))
        refine ⟨rfl, ?_⟩
        have r32 := w_m4.at (a := 187) (k := 43) rfl
        have r33 := w_m4.at (a := 187) (k := 16) rfl
        exact ⟨w_m4, f_m4, _, rfl, (by show (((m4.1 187 43)).toInt = -3 ∧ ((m4.1 187 16)).toInt = (m0.1 187 16).toInt) ∨ (0 ≤ ((m4.1 187 43)).toInt ∧ ((m4.1 187 16)).toInt = 3); omega)⟩
    · intro c34
      have r35 := w.at (a := 187) (k := 43) rfl
      have k36 := z_nle c34
      refine (s_X12_load w (by show (0 : Int) ≤ (x3).toInt; omega) (by show (x3).toInt ≤ (2999 : Int); omega)).to ?_
      rintro _ m5 ⟨w_m5, g37, rfl⟩
      have f_m5 : Fx (RS [20, 22, 24, 26, 28, 34, 35, 49]) m0 m5 := f.tr g37 (RS_sub rfl)
      have e38 : (m5.1 187 16).toInt = ((m.1 187 16)).toInt := congrArg _ (g37.at (a := 187) (k := 16) (by decide))
      have e39 : (m5.1 187 43).toInt = ((m.1 187 43)).toInt := congrArg _ (g37.at (a := 187) (k := 43) (by decide))
      have e40 : (m5.1 187 1).toInt = ((m.1 187 1)).toInt := congrArg _ (g37.at (a := 187) (k := 1) (by decide))
      have e41 : (m5.1 187 0).toInt = ((m.1 187 0)).toInt := congrArg _ (g37.at (a := 187) (k := 0) (by decide))
      refine ⟨rfl, ?_⟩
      refine (s_X12_sumOfAll w_m5).to ?_
      rintro _ m6 ⟨w_m6, g42, v7, rfl⟩
      have f_m6 : Fx (RS [20, 22, 24, 26, 28, 34, 35, 49]) m0 m6 := f_m5.tr g42 (RS_sub rfl)
      have e43 : (m6.1 187 16).toInt = ((m5.1 187 16)).toInt := congrArg _ (g42.at (a := 187) (k := 16) (by decide))
      have e44 : (m6.1 187 43).toInt = ((m5.1 187 43)).toInt := congrArg _ (g42.at (a := 187) (k := 43) (by decide))
      have e45 : (m6.1 187 1).toInt = ((m5.1 187 1)).toInt := congrArg _ (g42.at (a := 187) (k := 1) (by decide))
      have e46 : (m6.1 187 0).toInt = ((m5.1 187 0)).toInt := congrArg _ (g42.at (a := 187) (k := 0) (by decide))
      refine ⟨v7, rfl, ?_⟩
      have t47 := ti_addc (x := x3) (y := (1 : Int32)) (c := 1) rfl (by omega)
      have r48 := w_m6.at (a := 187) (k := 43) rfl
      exact ih _ _ _ _ w_m6 f_m6 (by show (0 : Int) ≤ ((x3 + (1 : Int32))).toInt; omega) (by show ((x3 + (1 : Int32))).toInt ≤ (3000 : Int); omega) (by show 1 ≤ ((m6.1 187 43)).toInt; omega) (by show 3000 - ((x3 + (1 : Int32))).toInt < _; omega)
set_option maxHeartbeats 4000000 in
theorem n_X12_all {ad : Nat → Nat} {d : Nat} {m : Wm} (w : WT m) : Ct ad μX12_all (d + 178) [.ref (ad 187)] m (fun r m' => WT m' ∧ Fx (RS [20, 22, 24, 26, 28, 34, 35, 49]) m m' ∧ ∃ v : Int32, r = some (.int v) ∧ ((v.toInt = -3 ∧ (m'.1 187 16).toInt = (m.1 187 16).toInt) ∨ (0 ≤ v.toInt ∧ (m'.1 187 16).toInt = 3))) := by
  have f : Fx (RS [20, 22, 24, 26, 28, 34, 35, 49]) m m := Fx.rf
  refine v_X12_all  ?_
  have w1 : WT (uI m 187 17 (0 : Int32)) := w.n rfl
  have f1 : Fx (RS [20, 22, 24, 26, 28, 34, 35, 49]) m (uI m 187 17 (0 : Int32)) := f.i rfl
  refine (s_X12_findStates w1).to ?_
  rintro _ m1 ⟨w_m1, g2, v2, rfl, p4, p5, p3⟩
  have f_m1 : Fx (RS [20, 22, 24, 26, 28, 34, 35, 49]) m m1 := f1.tr g2 (RS_sub rfl)
  have p6 : 1 ≤ (m1.1 187 43).toInt := p3
  clear p3
  have e7 : (m1.1 187 16).toInt = ((m.1 187 16)).toInt := congrArg _ (g2.at (a := 187) (k := 16) (by decide))
  have e8 : (m1.1 187 1).toInt = ((m.1 187 1)).toInt := congrArg _ (g2.at (a := 187) (k := 1) (by decide))
  have e9 : (m1.1 187 0).toInt = ((m.1 187 0)).toInt := congrArg _ (g2.at (a := 187) (k := 0) (by decide))
  refine ⟨v2, rfl, ?_⟩
  refine ⟨?_, ?_⟩
  · intro c10
    have k11 := y_ner (n := 0) rfl c10
    have r12 := w_m1.at (a := 187) (k := 43) rfl
    exact (nl_X12_all (m0 := m) 1000000) _ _ _ _ w_m1 f_m1 (by show (0 : Int) ≤ (0 : Int); omega) (by show (0 : Int) ≤ (3000 : Int); omega) (by show 1 ≤ ((m1.1 187 43)).toInt; omega) (by show 3000 - (0 : Int) < _; omega)
  · intro c13
    have k14 := y_eqr (n := 0) rfl c13
    have r15 := w_m1.at (a := 187) (k := 16) rfl
    exact ⟨w_m1, f_m1, _, rfl, (by show ((-3 : Int) = -3 ∧ ((m1.1 187 16)).toInt = (m.1 187 16).toInt) ∨ (0 ≤ (-3 : Int) ∧ ((m1.1 187 16)).toInt = 3); omega)⟩
set_option maxHeartbeats 4000000 in
theorem nl_X12_next {ad : Nat → Nat} {d : Nat} {m0 : Wm}  : ∀ n : Nat, (∀ (m : Wm) (x1 x2 x3 x4 : Int32), WT m → Fx (RS [20, 22, 24, 26, 28, 34, 49]) m0 m → (0 : Int) ≤ x1.toInt → x1.toInt ≤ (7 : Int) → (0 : Int) ≤ x4.toInt → x4.toInt ≤ (3 : Int) → (x1.toInt < (m0.1 187 1).toInt) → (2 ≤ (m0.1 187 1).toInt) → (3 - x4.toInt) * 1000 + 900 < (n : Int) → AW ad E0 μX12_next (d + 171) (fun r m' => WT m' ∧ Fx (RS [20, 22, 24, 26, 28, 34, 49]) m0 m' ∧ ∃ v : Int32, r = some (.int v) ∧ (((x1.toInt < 0 ∨ (m0.1 187 1).toInt ≤ x1.toInt ∨ (m0.1 187 1).toInt < 2) ∧ (m'.1 187 16).toInt = (m0.1 187 16).toInt) ∨ (0 ≤ x1.toInt ∧ x1.toInt < (m0.1 187 1).toInt ∧ 2 ≤ (m0.1 187 1).toInt ∧ (m'.1 187 16).toInt = 1))) 42 [(0, .ref (ad 187)), (1, .int x1), (2, .int x2), (3, .int x3), (4, .int x4)] [] m) ∧ (∀ (m : Wm) (x1 x2 x3 x4 x5 : Int32), WT m → Fx (RS [20, 22, 24, 26, 28, 34, 49]) m0 m → (0 : Int) ≤ x1.toInt → x1.toInt ≤ (7 : Int) → (0 : Int) ≤ x4.toInt → x4.toInt ≤ (2 : Int) → (0 : Int) ≤ x5.toInt → x5.toInt ≤ (8 : Int) → (x1.toInt < (m0.1 187 1).toInt) → (2 ≤ (m0.1 187 1).toInt) → (3 - x4.toInt) * 1000 + (8 - x5.toInt) * 40 + 35 < (n : Int) → AW ad E0 μX12_next (d + 171) (fun r m' => WT m' ∧ Fx (RS [20, 22, 24, 26, 28, 34, 49]) m0 m' ∧ ∃ v : Int32, r = some (.int v) ∧ (((x1.toInt < 0 ∨ (m0.1 187 1).toInt ≤ x1.toInt ∨ (m0.1 187 1).toInt < 2) ∧ (m'.1 187 16).toInt = (m0.1 187 16).toInt) ∨ (0 ≤ x1.toInt ∧ x1.toInt < (m0.1 187 1).toInt ∧ 2 ≤ (m0.1 187 1).toInt ∧ (m'.1 187 16).toInt = 1))) 51 [(0, .ref (ad 187)), (1, .int x1), (2, .int x2), (3, .int x3), (4, .int x4), (5, .int x5)] [] m) ∧ (∀ (m : Wm) (x1 x2 x3 x4 x5 x6 : Int32), WT m → Fx (RS [20, 22, 24, 26, 28, 34, 49]) m0 m → (0 : Int) ≤ x1.toInt → x1.toInt ≤ (7 : Int) → (0 : Int) ≤ x4.toInt → x4.toInt ≤ (2 : Int) → (0 : Int) ≤ x5.toInt → x5.toInt ≤ (7 : Int) → (0 : Int) ≤ x6.toInt → x6.toInt ≤ (8 : Int) → (x1.toInt < (m0.1 187 1).toInt) → (2 ≤ (m0.1 187 1).toInt) → (3 - x4.toInt) * 1000 + (8 - x5.toInt) * 40 + (8 - x6.toInt) * 2 + 1 < (n : Int) → AW ad E0 μX12_next (d + 171) (fun r m' => WT m' ∧ Fx (RS [20, 22, 24, 26, 28, 34, 49]) m0 m' ∧ ∃ v : Int32, r = some (.int v) ∧ (((x1.toInt < 0 ∨ (m0.1 187 1).toInt ≤ x1.toInt ∨ (m0.1 187 1).toInt < 2) ∧ (m'.1 187 16).toInt = (m0.1 187 16).toInt) ∨ (0 ≤ x1.toInt ∧ x1.toInt < (m0.1 187 1).toInt ∧ 2 ≤ (m0.1 187 1).toInt ∧ (m'.1 187 16).toInt = 1))) 66 [(0, .ref (ad 187)), (1, .int x1), (2, .int x2), (3, .int x3), (4, .int x4), (5, .int x5), (6, .int x6)] [] m) ∧ (∀ (m : Wm) (x1 x4 x5 x6 x7 : Int32), WT m → Fx (RS [20, 22, 24, 26, 28, 34, 49]) m0 m → (0 : Int) ≤ x1.toInt → x1.toInt ≤ (7 : Int) → (0 : Int) ≤ x4.toInt → x4.toInt ≤ (2 : Int) → (0 : Int) ≤ x5.toInt → x5.toInt ≤ (7 : Int) → (0 : Int) ≤ x6.toInt → x6.toInt ≤ (7 : Int) → (x1.toInt < (m0.1 187 1).toInt) → (2 ≤ (m0.1 187 1).toInt) → (3 - x4.toInt) * 1000 + (8 - x5.toInt) * 40 + (8 - x6.toInt) * 2 < (n : Int) → AW ad E0 μX12_next (d + 171) (fun r m' => WT m' ∧ Fx (RS [20, 22, 24, 26, 28, 34, 49]) m0 m' ∧ ∃ v : Int32, r = some (.int v) ∧ (((x1.toInt < 0 ∨ (m0.1 187 1).toInt ≤ x1.toInt ∨ (m0.1 187 1).toInt < 2) ∧ (m'.1 187 16).toInt = (m0.1 187 16).toInt) ∨ (0 ≤ x1.toInt ∧ x1.toInt < (m0.1 187 1).toInt ∧ 2 ≤ (m0.1 187 1).toInt ∧ (m'.1 187 16).toInt = 1))) 115 [(0, .ref (ad 187)), (1, .int x1), (4, .int x4), (5, .int x5), (6, .int x6), (7, .int x7)] [] m) := by
  intro n
  induction n with
  | zero =>
    refine ⟨?_, ?_, ?_, ?_⟩ <;> intros <;> exfalso <;> omega
  | succ n ih =>
    refine ⟨?_, ?_, ?_, ?_⟩
    · intro m x1 x2 x3 x4 w f j1 j2 j3 j4 j5 j6 hn
      refine g_X12_next_42  ?_
      refine ⟨?_, ?_⟩
      · intro c1
        have k2 := y_lel (n := 3) rfl c1
        have w3 : WT (uI m 187 16 (0 : Int32)) := w.t rfl (by show (0 : Int) ≤ (0 : Int); omega) (by show (0 : Int) ≤ 16; omega)
        have f3 : Fx (RS [20, 22, 24, 26, 28, 34, 49]) m0 (uI m 187 16 (0 : Int32)) := f.i rfl
        refine (s_X12_tell w3 (by show (0 : Int) ≤ 15; omega)).to ?_
        rintro _ m1 ⟨w_m1, g4, rfl, p5⟩
        have f_m1 : Fx (RS [20, 22, 24, 26, 28, 34, 49]) m0 m1 := f3.tr g4 (RS_sub rfl)
        have p6 : (m1.1 187 16).toInt = (0 : Int) + 1 := p5
        clear p5
        have e7 : (m1.1 187 1).toInt = ((m.1 187 1)).toInt := congrArg _ (g4.at (a := 187) (k := 1) (by decide))
        have e8 : (m1.1 187 0).toInt = ((m.1 187 0)).toInt := congrArg _ (g4.at (a := 187) (k := 0) (by decide))
        refine ⟨rfl, ?_⟩
        have r9 := w_m1.at (a := 187) (k := 16) rfl
        exact ⟨w_m1, f_m1, _, rfl, (by show ((x1.toInt < 0 ∨ (m0.1 187 1).toInt ≤ x1.toInt ∨ (m0.1 187 1).toInt < 2) ∧ ((m1.1 187 16)).toInt = (m0.1 187 16).toInt) ∨ (0 ≤ x1.toInt ∧ x1.toInt < (m0.1 187 1).toInt ∧ 2 ≤ (m0.1 187 1).toInt ∧ ((m1.1 187 16)).toInt = 1); omega)⟩
      · intro c10
        have k11 := y_nlel (n := 3) rfl c10
        exact ih.2.1 _ _ _ _ _ _ w f (by show (0 : Int) ≤ (x1).toInt; omega) (by show (x1).toInt ≤ (7 : Int); omega) (by show (0 : Int) ≤ (x4).toInt; omega) (by show (x4).toInt ≤ (2 : Int); omega) (by show (0 : Int) ≤ (0 : Int); omega) (by show (0 : Int) ≤ (8 : Int); omega) (by show (x1).toInt < (m0.1 187 1).toInt; omega) (by show 2 ≤ (m0.1 187 1).toInt; omega) (by show (3 - (x4).toInt) * 1000 + (8 - (0 : Int)) * 40 + 35 < _; omega)
    · intro m x1 x2 x3 x4 x5 w f j1 j2 j3 j4 j5 j6 j7 j8 hn
      refine g_X12_next_51  ?_
      refine ⟨?_, ?_⟩
      · intro c1
        have r2 := w.at (a := 187) (k := 1) rfl
        have k3 := z_le c1
        have t4 := ti_addc (x := x4) (y := (1 : Int32)) (c := 1) rfl (by omega)
        exact ih.1 _ _ _ _ _ w f (by show (0 : Int) ≤ (x1).toInt; omega) (by show (x1).toInt ≤ (7 : Int); omega) (by show (0 : Int) ≤ ((x4 + (1 : Int32))).toInt; omega) (by show ((x4 + (1 : Int32))).toInt ≤ (3 : Int); omega) (by show (x1).toInt < (m0.1 187 1).toInt; omega) (by show 2 ≤ (m0.1 187 1).toInt; omega) (by show (3 - ((x4 + (1 : Int32))).toInt) * 1000 + 900 < _; omega)
      · intro c5
        have r6 := w.at (a := 187) (k := 1) rfl
        have k7 := z_nle c5
        have t8 := ti_addc (x := x5) (y := (1 : Int32)) (c := 1) rfl (by omega)
        exact ih.2.2.1 _ _ _ _ _ _ _ w f (by show (0 : Int) ≤ (x1).toInt; omega) (by show (x1).toInt ≤ (7 : Int); omega) (by show (0 : Int) ≤ (x4).toInt; omega) (by show (x4).toInt ≤ (2 : Int); omega) (by show (0 : Int) ≤ (x5).toInt; omega) (by show (x5).toInt ≤ (7 : Int); omega) (by show (0 : Int) ≤ ((x5 + (1 : Int32))).toInt; omega) (by show ((x5 + (1 : Int32))).toInt ≤ (8 : Int); omega) (by show (x1).toInt < (m0.1 187 1).toInt; omega) (by show 2 ≤ (m0.1 187 1).toInt; omega) (by show (3 - (x4).toInt) * 1000 + (8 - (x5).toInt) * 40 + (8 - ((x5 + (1 : Int32))).toInt) * 2 + 1 < _; omega)
    · intro m x1 x2 x3 x4 x5 x6 w f j1 j2 j3 j4 j5 j6 j7 j8 j9 j10 hn
      refine g_X12_next_66  ?_
      refine ⟨?_, ?_⟩
      · intro c1
        have r2 := w.at (a := 187) (k := 1) rfl
        have k3 := z_le c1
        have t4 := ti_addc (x := x5) (y := (1 : Int32)) (c := 1) rfl (by omega)
        exact ih.2.1 _ _ _ _ _ _ w f (by show (0 : Int) ≤ (x1).toInt; omega) (by show (x1).toInt ≤ (7 : Int); omega) (by show (0 : Int) ≤ (x4).toInt; omega) (by show (x4).toInt ≤ (2 : Int); omega) (by show (0 : Int) ≤ ((x5 + (1 : Int32))).toInt; omega) (by show ((x5 + (1 : Int32))).toInt ≤ (8 : Int); omega) (by show (x1).toInt < (m0.1 187 1).toInt; omega) (by show 2 ≤ (m0.1 187 1).toInt; omega) (by show (3 - (x4).toInt) * 1000 + (8 - ((x5 + (1 : Int32))).toInt) * 40 + 35 < _; omega)
      · intro c5
        have r6 := w.at (a := 187) (k := 1) rfl
        have k7 := z_nle c5
        refine (s_X12_goQuiet w (by show (0 : Int) ≤ (x5).toInt; omega) (by show (x5).toInt ≤ (7 : Int); omega) (by show (0 : Int) ≤ (x6).toInt; omega) (by show (x6).toInt ≤ (7 : Int); omega)).to ?_
        rintro _ m1 ⟨w_m1, g8, rfl⟩
        have f_m1 : Fx (RS [20, 22, 24, 26, 28, 34, 49]) m0 m1 := f.tr g8 (RS_sub rfl)
        have e9 : (m1.1 187 16).toInt = ((m.1 187 16)).toInt := congrArg _ (g8.at (a := 187) (k := 16) (by decide))
        have e10 : (m1.1 187 1).toInt = ((m.1 187 1)).toInt := congrArg _ (g8.at (a := 187) (k := 1) (by decide))
        have e11 : (m1.1 187 0).toInt = ((m.1 187 0)).toInt := congrArg _ (g8.at (a := 187) (k := 0) (by decide))
        refine ⟨rfl, ?_⟩
        refine (s_X12_power w_m1 (by show (0 : Int) ≤ (x1).toInt; omega) (by show (x1).toInt ≤ (7 : Int); omega)).to ?_
        rintro _ m2 ⟨w_m2, g12, v3, rfl⟩
        have f_m2 : Fx (RS [20, 22, 24, 26, 28, 34, 49]) m0 m2 := f_m1.tr g12 (RS_sub rfl)
        have e13 : (m2.1 187 16).toInt = ((m1.1 187 16)).toInt := congrArg _ (g12.at (a := 187) (k := 16) (by decide))
        have e14 : (m2.1 187 1).toInt = ((m1.1 187 1)).toInt := congrArg _ (g12.at (a := 187) (k := 1) (by decide))
        have e15 : (m2.1 187 0).toInt = ((m1.1 187 0)).toInt := congrArg _ (g12.at (a := 187) (k := 0) (by decide))
        refine ⟨v3, rfl, ?_⟩
        refine (s_X12_bring_204 w_m2 (by show (0 : Int) ≤ (0 : Int); omega) (by show (0 : Int) ≤ (0 : Int); omega)).to ?_
        rintro _ m4 ⟨w_m4, g16, rfl⟩
        have f_m4 : Fx (RS [20, 22, 24, 26, 28, 34, 49]) m0 m4 := f_m2.tr g16 (RS_sub rfl)
        have e17 : (m4.1 187 16).toInt = ((m2.1 187 16)).toInt := congrArg _ (g16.at (a := 187) (k := 16) (by decide))
        have e18 : (m4.1 187 1).toInt = ((m2.1 187 1)).toInt := congrArg _ (g16.at (a := 187) (k := 1) (by decide))
        have e19 : (m4.1 187 0).toInt = ((m2.1 187 0)).toInt := congrArg _ (g16.at (a := 187) (k := 0) (by decide))
        refine ⟨rfl, ?_⟩
        refine ⟨?_, ?_⟩
        · intro c20
          have k21 := y_eqr (n := -1) rfl c20
          exact ih.2.2.2 _ _ _ _ _ _ w_m4 f_m4 (by show (0 : Int) ≤ (x1).toInt; omega) (by show (x1).toInt ≤ (7 : Int); omega) (by show (0 : Int) ≤ (x4).toInt; omega) (by show (x4).toInt ≤ (2 : Int); omega) (by show (0 : Int) ≤ (x5).toInt; omega) (by show (x5).toInt ≤ (7 : Int); omega) (by show (0 : Int) ≤ (x6).toInt; omega) (by show (x6).toInt ≤ (7 : Int); omega) (by show (x1).toInt < (m0.1 187 1).toInt; omega) (by show 2 ≤ (m0.1 187 1).toInt; omega) (by show (3 - (x4).toInt) * 1000 + (8 - (x5).toInt) * 40 + (8 - (x6).toInt) * 2 < _; omega)
        · intro c22
          have k23 := y_ner (n := -1) rfl c22
          refine ⟨?_, ?_⟩
          · intro c24
            have k25 := z_lt c24
            exact ih.2.2.2 _ _ _ _ _ _ w_m4 f_m4 (by show (0 : Int) ≤ (x1).toInt; omega) (by show (x1).toInt ≤ (7 : Int); omega) (by show (0 : Int) ≤ (x4).toInt; omega) (by show (x4).toInt ≤ (2 : Int); omega) (by show (0 : Int) ≤ (x5).toInt; omega) (by show (x5).toInt ≤ (7 : Int); omega) (by show (0 : Int) ≤ (x6).toInt; omega) (by show (x6).toInt ≤ (7 : Int); omega) (by show (x1).toInt < (m0.1 187 1).toInt; omega) (by show 2 ≤ (m0.1 187 1).toInt; omega) (by show (3 - (x4).toInt) * 1000 + (8 - (x5).toInt) * 40 + (8 - (x6).toInt) * 2 < _; omega)
          · intro c26
            have k27 := z_nlt c26
            have t28 := ti_addc (x := x6) (y := (1 : Int32)) (c := 1) rfl (by omega)
            exact ih.2.2.1 _ _ _ _ _ _ _ w_m4 f_m4 (by show (0 : Int) ≤ (x1).toInt; omega) (by show (x1).toInt ≤ (7 : Int); omega) (by show (0 : Int) ≤ (x4).toInt; omega) (by show (x4).toInt ≤ (2 : Int); omega) (by show (0 : Int) ≤ (x5).toInt; omega) (by show (x5).toInt ≤ (7 : Int); omega) (by show (0 : Int) ≤ ((x6 + (1 : Int32))).toInt; omega) (by show ((x6 + (1 : Int32))).toInt ≤ (8 : Int); omega) (by show (x1).toInt < (m0.1 187 1).toInt; omega) (by show 2 ≤ (m0.1 187 1).toInt; omega) (by show (3 - (x4).toInt) * 1000 + (8 - (x5).toInt) * 40 + (8 - ((x6 + (1 : Int32))).toInt) * 2 + 1 < _; omega)
    · intro m x1 x4 x5 x6 x7 w f j1 j2 j3 j4 j5 j6 j7 j8 j9 j10 hn
      refine g_X12_next_115  ?_
      have t1 := ti_addc (x := x6) (y := (1 : Int32)) (c := 1) rfl (by omega)
      exact ih.2.2.1 _ _ _ _ _ _ _ w f (by show (0 : Int) ≤ (x1).toInt; omega) (by show (x1).toInt ≤ (7 : Int); omega) (by show (0 : Int) ≤ (x4).toInt; omega) (by show (x4).toInt ≤ (2 : Int); omega) (by show (0 : Int) ≤ (x5).toInt; omega) (by show (x5).toInt ≤ (7 : Int); omega) (by show (0 : Int) ≤ ((x6 + (1 : Int32))).toInt; omega) (by show ((x6 + (1 : Int32))).toInt ≤ (8 : Int); omega) (by show (x1).toInt < (m0.1 187 1).toInt; omega) (by show 2 ≤ (m0.1 187 1).toInt; omega) (by show (3 - (x4).toInt) * 1000 + (8 - (x5).toInt) * 40 + (8 - ((x6 + (1 : Int32))).toInt) * 2 + 1 < _; omega)
set_option maxHeartbeats 4000000 in
theorem n_X12_next {ad : Nat → Nat} {d : Nat} {m : Wm} {x1 : Int32} (w : WT m) : Ct ad μX12_next (d + 171) [.ref (ad 187), .int x1] m (fun r m' => WT m' ∧ Fx (RS [20, 22, 24, 26, 28, 34, 49]) m m' ∧ ∃ v : Int32, r = some (.int v) ∧ (((x1.toInt < 0 ∨ (m.1 187 1).toInt ≤ x1.toInt ∨ (m.1 187 1).toInt < 2) ∧ (m'.1 187 16).toInt = (m.1 187 16).toInt) ∨ (0 ≤ x1.toInt ∧ x1.toInt < (m.1 187 1).toInt ∧ 2 ≤ (m.1 187 1).toInt ∧ (m'.1 187 16).toInt = 1))) := by
  have f : Fx (RS [20, 22, 24, 26, 28, 34, 49]) m m := Fx.rf
  refine v_X12_next  ?_
  have w1 : WT (uI m 187 17 (0 : Int32)) := w.n rfl
  have f1 : Fx (RS [20, 22, 24, 26, 28, 34, 49]) m (uI m 187 17 (0 : Int32)) := f.i rfl
  refine (s_X12_isSide w1).to ?_
  rintro _ m1 ⟨w_m1, g2, v2, rfl, p4, p5, p3⟩
  have f_m1 : Fx (RS [20, 22, 24, 26, 28, 34, 49]) m m1 := f1.tr g2 (RS_sub rfl)
  have p6 : (v2.toInt = 0 ∧ ((x1).toInt < 0 ∨ ((m.1 187 1)).toInt ≤ (x1).toInt)) ∨ (v2.toInt = 1 ∧ 0 ≤ (x1).toInt ∧ (x1).toInt < ((m.1 187 1)).toInt) := p3
  clear p3
  have e7 : (m1.1 187 16).toInt = ((m.1 187 16)).toInt := congrArg _ (g2.at (a := 187) (k := 16) (by decide))
  have e8 : (m1.1 187 1).toInt = ((m.1 187 1)).toInt := congrArg _ (g2.at (a := 187) (k := 1) (by decide))
  have e9 : (m1.1 187 0).toInt = ((m.1 187 0)).toInt := congrArg _ (g2.at (a := 187) (k := 0) (by decide))
  refine ⟨v2, rfl, ?_⟩
  refine ⟨?_, ?_⟩
  · intro c10
    have k11 := y_ner (n := 0) rfl c10
    have r12 := w.at (a := 187) (k := 1) rfl
    refine ⟨?_, ?_⟩
    · intro c13
      have r14 := w_m1.at (a := 187) (k := 1) rfl
      have k15 := y_lel (n := 2) rfl c13
      refine (s_X12_lay_204 w_m1 (by show (0 : Int) ≤ (0 : Int); omega) (by show (0 : Int) ≤ (0 : Int); omega)).to ?_
      rintro _ m3 ⟨w_m3, g16, rfl⟩
      have f_m3 : Fx (RS [20, 22, 24, 26, 28, 34, 49]) m m3 := f_m1.tr g16 (RS_sub rfl)
      have e17 : (m3.1 187 16).toInt = ((m1.1 187 16)).toInt := congrArg _ (g16.at (a := 187) (k := 16) (by decide))
      have e18 : (m3.1 187 1).toInt = ((m1.1 187 1)).toInt := congrArg _ (g16.at (a := 187) (k := 1) (by decide))
      have e19 : (m3.1 187 0).toInt = ((m1.1 187 0)).toInt := congrArg _ (g16.at (a := 187) (k := 0) (by decide))
      refine ⟨rfl, ?_⟩
      exact (nl_X12_next (m0 := m) 1000000).1 _ _ _ _ _ w_m3 f_m3 (by show (0 : Int) ≤ (x1).toInt; omega) (by show (x1).toInt ≤ (7 : Int); omega) (by show (0 : Int) ≤ (0 : Int); omega) (by show (0 : Int) ≤ (3 : Int); omega) (by show (x1).toInt < (m.1 187 1).toInt; omega) (by show 2 ≤ (m.1 187 1).toInt; omega) (by show (3 - (0 : Int)) * 1000 + 900 < _; omega)
    · intro c20
      have r21 := w_m1.at (a := 187) (k := 1) rfl
      have k22 := y_nlel (n := 2) rfl c20
      have r23 := w_m1.at (a := 187) (k := 16) rfl
      exact ⟨w_m1, f_m1, _, rfl, (by show ((x1.toInt < 0 ∨ (m.1 187 1).toInt ≤ x1.toInt ∨ (m.1 187 1).toInt < 2) ∧ ((m1.1 187 16)).toInt = (m.1 187 16).toInt) ∨ (0 ≤ x1.toInt ∧ x1.toInt < (m.1 187 1).toInt ∧ 2 ≤ (m.1 187 1).toInt ∧ ((m1.1 187 16)).toInt = 1); omega)⟩
  · intro c24
    have k25 := y_eqr (n := 0) rfl c24
    have r26 := w_m1.at (a := 187) (k := 16) rfl
    exact ⟨w_m1, f_m1, _, rfl, (by show ((x1.toInt < 0 ∨ (m.1 187 1).toInt ≤ x1.toInt ∨ (m.1 187 1).toInt < 2) ∧ ((m1.1 187 16)).toInt = (m.1 187 16).toInt) ∨ (0 ≤ x1.toInt ∧ x1.toInt < (m.1 187 1).toInt ∧ 2 ≤ (m.1 187 1).toInt ∧ ((m1.1 187 16)).toInt = 1); omega)⟩
set_option maxHeartbeats 4000000 in
theorem nl_X12_found {ad : Nat → Nat} {d : Nat} {m0 : Wm}  : ∀ n : Nat, (∀ (m : Wm) (x1 x2 x3 x4 : Int32), WT m → Fx (RS [20, 22, 26, 28]) m0 m → (0 : Int) ≤ x4.toInt → x4.toInt ≤ (8 : Int) → (8 - x4.toInt) * 100 + 90 < (n : Int) → AW ad E0 μX12_found (d + 170) (fun r m' => WT m' ∧ Fx (RS [20, 22, 26, 28]) m0 m' ∧ ∃ v : Int32, r = some (.int v) ∧ ((m'.1 187 16).toInt = 3)) 14 [(0, .ref (ad 187)), (1, .int x1), (2, .int x2), (3, .int x3), (4, .int x4)] [] m) ∧ (∀ (m : Wm) (x1 x2 x3 x4 x5 x6 : Int32), WT m → Fx (RS [20, 22, 26, 28]) m0 m → (0 : Int) ≤ x4.toInt → x4.toInt ≤ (7 : Int) → (0 : Int) ≤ x6.toInt → x6.toInt ≤ (12 : Int) → (8 - x4.toInt) * 100 + (12 - x6.toInt) * 2 + 1 < (n : Int) → AW ad E0 μX12_found (d + 170) (fun r m' => WT m' ∧ Fx (RS [20, 22, 26, 28]) m0 m' ∧ ∃ v : Int32, r = some (.int v) ∧ ((m'.1 187 16).toInt = 3)) 29 [(0, .ref (ad 187)), (1, .int x1), (2, .int x2), (3, .int x3), (4, .int x4), (5, .int x5), (6, .int x6)] [] m) ∧ (∀ (m : Wm) (x1 x2 x3 x4 x6 x8 x9 s0 : Int32), WT m → Fx (RS [20, 22, 26, 28]) m0 m → (0 : Int) ≤ x4.toInt → x4.toInt ≤ (7 : Int) → (0 : Int) ≤ x6.toInt → x6.toInt ≤ (11 : Int) → (8 - x4.toInt) * 100 + (12 - x6.toInt) * 2 < (n : Int) → AW ad E0 μX12_found (d + 170) (fun r m' => WT m' ∧ Fx (RS [20, 22, 26, 28]) m0 m' ∧ ∃ v : Int32, r = some (.int v) ∧ ((m'.1 187 16).toInt = 3)) 113 [(0, .ref (ad 187)), (1, .int x1), (2, .int x2), (3, .int x3), (4, .int x4), (6, .int x6), (8, .int x8), (9, .int x9)] [.int s0] m) := by
  intro n
  induction n with
  | zero =>
    refine ⟨?_, ?_, ?_⟩ <;> intros <;> exfalso <;> omega
  | succ n ih =>
    refine ⟨?_, ?_, ?_⟩
    · intro m x1 x2 x3 x4 w f j1 j2 hn
      refine g_X12_found_14  ?_
      refine ⟨?_, ?_⟩
      · intro c1
        have r2 := w.at (a := 187) (k := 1) rfl
        have k3 := z_le c1
        have w4 : WT (uI m 187 16 (0 : Int32)) := w.t rfl (by show (0 : Int) ≤ (0 : Int); omega) (by show (0 : Int) ≤ 16; omega)
        have f4 : Fx (RS [20, 22, 26, 28]) m0 (uI m 187 16 (0 : Int32)) := f.i rfl
        refine (s_J6_bitCount w4).to ?_
        rintro _ m1 ⟨w_m1, g5, v2, rfl⟩
        have f_m1 : Fx (RS [20, 22, 26, 28]) m0 m1 := f4.tr g5 (RS_sub rfl)
        have e6 : (m1.1 187 16).toInt = (0 : Int) := congrArg _ (g5.at (a := 187) (k := 16) (by decide))
        have e7 : (m1.1 187 1).toInt = ((m.1 187 1)).toInt := congrArg _ (g5.at (a := 187) (k := 1) (by decide))
        have e8 : (m1.1 187 0).toInt = ((m.1 187 0)).toInt := congrArg _ (g5.at (a := 187) (k := 0) (by decide))
        refine ⟨v2, rfl, ?_⟩
        have r9 := w_m1.at (a := 187) (k := 16) rfl
        refine (s_X12_tell w_m1 (by show ((m1.1 187 16)).toInt ≤ 15; omega)).to ?_
        rintro _ m3 ⟨w_m3, g10, rfl, p11⟩
        have f_m3 : Fx (RS [20, 22, 26, 28]) m0 m3 := f_m1.tr g10 (RS_sub rfl)
        have p12 : (m3.1 187 16).toInt = ((m1.1 187 16)).toInt + 1 := p11
        clear p11
        have e13 : (m3.1 187 1).toInt = ((m1.1 187 1)).toInt := congrArg _ (g10.at (a := 187) (k := 1) (by decide))
        have e14 : (m3.1 187 0).toInt = ((m1.1 187 0)).toInt := congrArg _ (g10.at (a := 187) (k := 0) (by decide))
        refine ⟨rfl, ?_⟩
        have r15 := w_m3.at (a := 187) (k := 16) rfl
        refine (s_X12_tell w_m3 (by show ((m3.1 187 16)).toInt ≤ 15; omega)).to ?_
        rintro _ m4 ⟨w_m4, g16, rfl, p17⟩
        have f_m4 : Fx (RS [20, 22, 26, 28]) m0 m4 := f_m3.tr g16 (RS_sub rfl)
        have p18 : (m4.1 187 16).toInt = ((m3.1 187 16)).toInt + 1 := p17
        clear p17
        have e19 : (m4.1 187 1).toInt = ((m3.1 187 1)).toInt := congrArg _ (g16.at (a := 187) (k := 1) (by decide))
        have e20 : (m4.1 187 0).toInt = ((m3.1 187 0)).toInt := congrArg _ (g16.at (a := 187) (k := 0) (by decide))
        refine ⟨rfl, ?_⟩
        have r21 := w_m4.at (a := 187) (k := 16) rfl
        refine (s_X12_tell w_m4 (by show ((m4.1 187 16)).toInt ≤ 15; omega)).to ?_
        rintro _ m5 ⟨w_m5, g22, rfl, p23⟩
        have f_m5 : Fx (RS [20, 22, 26, 28]) m0 m5 := f_m4.tr g22 (RS_sub rfl)
        have p24 : (m5.1 187 16).toInt = ((m4.1 187 16)).toInt + 1 := p23
        clear p23
        have e25 : (m5.1 187 1).toInt = ((m4.1 187 1)).toInt := congrArg _ (g22.at (a := 187) (k := 1) (by decide))
        have e26 : (m5.1 187 0).toInt = ((m4.1 187 0)).toInt := congrArg _ (g22.at (a := 187) (k := 0) (by decide))
        refine ⟨rfl, ?_⟩
        have r27 := w_m5.at (a := 187) (k := 16) rfl
        exact ⟨w_m5, f_m5, _, rfl, (by show ((m5.1 187 16)).toInt = 3; omega)⟩
      · intro c28
        have r29 := w.at (a := 187) (k := 1) rfl
        have k30 := z_nle c28
        exact ih.2.1 _ _ _ _ _ _ _ w f (by show (0 : Int) ≤ (x4).toInt; omega) (by show (x4).toInt ≤ (7 : Int); omega) (by show (0 : Int) ≤ (0 : Int); omega) (by show (0 : Int) ≤ (12 : Int); omega) (by show (8 - (x4).toInt) * 100 + (12 - (0 : Int)) * 2 + 1 < _; omega)
    · intro m x1 x2 x3 x4 x5 x6 w f j1 j2 j3 j4 hn
      refine g_X12_found_29  ?_
      refine ⟨?_, ?_⟩
      · intro c1
        have r2 := w.at (a := 187) (k := 52) rfl
        have k3 := z_le c1
        refine ⟨?_, ?_⟩
        · intro c4
          have k5 := z_lt c4
          have t6 := ti_addc (x := x4) (y := (1 : Int32)) (c := 1) rfl (by omega)
          exact ih.1 _ _ _ _ _ w f (by show (0 : Int) ≤ ((x4 + (1 : Int32))).toInt; omega) (by show ((x4 + (1 : Int32))).toInt ≤ (8 : Int); omega) (by show (8 - ((x4 + (1 : Int32))).toInt) * 100 + 90 < _; omega)
        · intro c7
          have k8 := z_nlt c7
          have t9 := ti_addc (x := x4) (y := (1 : Int32)) (c := 1) rfl (by omega)
          exact ih.1 _ _ _ _ _ w f (by show (0 : Int) ≤ ((x4 + (1 : Int32))).toInt; omega) (by show ((x4 + (1 : Int32))).toInt ≤ (8 : Int); omega) (by show (8 - ((x4 + (1 : Int32))).toInt) * 100 + 90 < _; omega)
      · intro c10
        have r11 := w.at (a := 187) (k := 52) rfl
        have k12 := z_nle c10
        refine ⟨?_, ?_⟩
        · have t13 := ti_mulc (c := 3) (y := (3 : Int32)) (x := x6) rfl (by omega)
          exact vpi (by omega) (by omega)
        · refine ⟨?_, ?_⟩
          · have t14 := ti_mulc (c := 3) (y := (3 : Int32)) (x := x6) rfl (by omega)
            have t15 := ti_addc (x := ((3 : Int32) * x6)) (y := (1 : Int32)) (c := 1) rfl (by omega)
            exact vpi (by omega) (by omega)
          · refine ⟨?_, ?_⟩
            · have t16 := ti_mulc (c := 3) (y := (3 : Int32)) (x := x6) rfl (by omega)
              have t17 := ti_addc (x := ((3 : Int32) * x6)) (y := (2 : Int32)) (c := 2) rfl (by omega)
              exact vpi (by omega) (by omega)
            · have r18 := w.s30 (x := x6) ⟨by omega, by omega⟩
              have r19 := w.s31 (x := x6) ⟨by omega, by omega⟩
              refine (s_X12_winner w (by show (0 : Int) ≤ ((m.1 213 (((3 : Int32) * x6).toNatClampNeg))).toInt; omega) (by show ((m.1 213 (((3 : Int32) * x6).toNatClampNeg))).toInt ≤ (7 : Int); omega) (by show (0 : Int) ≤ ((m.1 213 ((((3 : Int32) * x6) + (1 : Int32)).toNatClampNeg))).toInt; omega) (by show ((m.1 213 ((((3 : Int32) * x6) + (1 : Int32)).toNatClampNeg))).toInt ≤ (7 : Int); omega)).to ?_
              rintro _ m1 ⟨w_m1, g20, v2, rfl, p21, p22⟩
              have f_m1 : Fx (RS [20, 22, 26, 28]) m0 m1 := f.tr g20 (RS_sub rfl)
              have e23 : (m1.1 187 16).toInt = ((m.1 187 16)).toInt := congrArg _ (g20.at (a := 187) (k := 16) (by decide))
              have e24 : (m1.1 187 1).toInt = ((m.1 187 1)).toInt := congrArg _ (g20.at (a := 187) (k := 1) (by decide))
              have e25 : (m1.1 187 0).toInt = ((m.1 187 0)).toInt := congrArg _ (g20.at (a := 187) (k := 0) (by decide))
              refine ⟨v2, rfl, ?_⟩
              refine ⟨?_, ?_⟩
              · intro c26
                have k27 := z_ne c26
                refine ⟨?_, ?_⟩
                · intro c28
                  have k29 := y_eqr (n := 0) rfl c28
                  exact ih.2.2 _ _ _ _ _ _ _ _ _ w_m1 f_m1 (by show (0 : Int) ≤ (x4).toInt; omega) (by show (x4).toInt ≤ (7 : Int); omega) (by show (0 : Int) ≤ (x6).toInt; omega) (by show (x6).toInt ≤ (11 : Int); omega) (by show (8 - (x4).toInt) * 100 + (12 - (x6).toInt) * 2 < _; omega)
                · intro c30
                  have k31 := y_ner (n := 0) rfl c30
                  refine ⟨?_, ?_⟩
                  · intro c32
                    have k33 := z_eq c32
                    have t34 := ti_addc (x := x6) (y := (1 : Int32)) (c := 1) rfl (by omega)
                    exact ih.2.1 _ _ _ _ _ _ _ w_m1 f_m1 (by show (0 : Int) ≤ (x4).toInt; omega) (by show (x4).toInt ≤ (7 : Int); omega) (by show (0 : Int) ≤ ((x6 + (1 : Int32))).toInt; omega) (by show ((x6 + (1 : Int32))).toInt ≤ (12 : Int); omega) (by show (8 - (x4).toInt) * 100 + (12 - ((x6 + (1 : Int32))).toInt) * 2 + 1 < _; omega)
                  · intro c35
                    have k36 := z_ne c35
                    exact ih.2.2 _ _ _ _ _ _ _ _ _ w_m1 f_m1 (by show (0 : Int) ≤ (x4).toInt; omega) (by show (x4).toInt ≤ (7 : Int); omega) (by show (0 : Int) ≤ (x6).toInt; omega) (by show (x6).toInt ≤ (11 : Int); omega) (by show (8 - (x4).toInt) * 100 + (12 - (x6).toInt) * 2 < _; omega)
              · intro c37
                have k38 := z_eq c37
                have t39 := ti_addc (x := x6) (y := (1 : Int32)) (c := 1) rfl (by omega)
                exact ih.2.1 _ _ _ _ _ _ _ w_m1 f_m1 (by show (0 : Int) ≤ (x4).toInt; omega) (by show (x4).toInt ≤ (7 : Int); omega) (by show (0 : Int) ≤ ((x6 + (1 : Int32))).toInt; omega) (by show ((x6 + (1 : Int32))).toInt ≤ (12 : Int); omega) (by show (8 - (x4).toInt) * 100 + (12 - ((x6 + (1 : Int32))).toInt) * 2 + 1 < _; omega)
    · intro m x1 x2 x3 x4 x6 x8 x9 s0 w f j1 j2 j3 j4 hn
      refine g_X12_found_113  ?_
      refine ⟨?_, ?_⟩
      · intro c1
        have k2 := y_eqr (n := 1) rfl c1
        have t3 := ti_addc (x := x6) (y := (1 : Int32)) (c := 1) rfl (by omega)
        exact ih.2.1 _ _ _ _ _ _ _ w f (by show (0 : Int) ≤ (x4).toInt; omega) (by show (x4).toInt ≤ (7 : Int); omega) (by show (0 : Int) ≤ ((x6 + (1 : Int32))).toInt; omega) (by show ((x6 + (1 : Int32))).toInt ≤ (12 : Int); omega) (by show (8 - (x4).toInt) * 100 + (12 - ((x6 + (1 : Int32))).toInt) * 2 + 1 < _; omega)
      · intro c4
        have k5 := y_ner (n := 1) rfl c4
        refine ⟨?_, ?_⟩
        · intro c6
          have k7 := z_ne c6
          have t8 := ti_addc (x := x6) (y := (1 : Int32)) (c := 1) rfl (by omega)
          exact ih.2.1 _ _ _ _ _ _ _ w f (by show (0 : Int) ≤ (x4).toInt; omega) (by show (x4).toInt ≤ (7 : Int); omega) (by show (0 : Int) ≤ ((x6 + (1 : Int32))).toInt; omega) (by show ((x6 + (1 : Int32))).toInt ≤ (12 : Int); omega) (by show (8 - (x4).toInt) * 100 + (12 - ((x6 + (1 : Int32))).toInt) * 2 + 1 < _; omega)
        · intro c9
          have k10 := z_eq c9
          have t11 := ti_addc (x := x6) (y := (1 : Int32)) (c := 1) rfl (by omega)
          exact ih.2.1 _ _ _ _ _ _ _ w f (by show (0 : Int) ≤ (x4).toInt; omega) (by show (x4).toInt ≤ (7 : Int); omega) (by show (0 : Int) ≤ ((x6 + (1 : Int32))).toInt; omega) (by show ((x6 + (1 : Int32))).toInt ≤ (12 : Int); omega) (by show (8 - (x4).toInt) * 100 + (12 - ((x6 + (1 : Int32))).toInt) * 2 + 1 < _; omega)
set_option maxHeartbeats 4000000 in
theorem n_X12_found {ad : Nat → Nat} {d : Nat} {m : Wm} (w : WT m) : Ct ad μX12_found (d + 170) [.ref (ad 187)] m (fun r m' => WT m' ∧ Fx (RS [20, 22, 26, 28]) m m' ∧ ∃ v : Int32, r = some (.int v) ∧ ((m'.1 187 16).toInt = 3)) := by
  have f : Fx (RS [20, 22, 26, 28]) m m := Fx.rf
  refine v_X12_found  ?_
  have w1 : WT (uI m 187 17 (0 : Int32)) := w.n rfl
  have f1 : Fx (RS [20, 22, 26, 28]) m (uI m 187 17 (0 : Int32)) := f.i rfl
  exact (nl_X12_found (m0 := m) 1000000).1 _ _ _ _ _ w1 f1 (by show (0 : Int) ≤ (0 : Int); omega) (by show (0 : Int) ≤ (8 : Int); omega) (by show (8 - (0 : Int)) * 100 + 90 < _; omega)
set_option maxHeartbeats 4000000 in
theorem nl_X12_prize {ad : Nat → Nat} {d : Nat} {m0 : Wm}  : ∀ n : Nat, (∀ (m : Wm) (x1 x2 x3 : Int32), WT m → Fx (RS [20, 26]) m0 m → (0 : Int) ≤ x1.toInt → x1.toInt ≤ (7 : Int) → (0 : Int) ≤ x3.toInt → x3.toInt ≤ (8 : Int) → 8 - x3.toInt < (n : Int) → AW ad E0 μX12_prize (d + 1) (fun r m' => WT m' ∧ Fx (RS [20, 26]) m0 m' ∧ ∃ v : Int32, r = some (.int v) ∧ ((v.toInt = -2 ∧ (m'.1 187 16).toInt = (m0.1 187 16).toInt) ∨ (0 ≤ v.toInt ∧ (m'.1 187 16).toInt = 2))) 21 [(0, .ref (ad 187)), (1, .int x1), (2, .int x2), (3, .int x3)] [] m) := by
  intro n
  induction n with
  | zero =>
    intros
    exfalso
    omega
  | succ n ih =>
    intro m x1 x2 x3 w f j1 j2 j3 j4 hn
    refine g_X12_prize_21  ?_
    refine ⟨?_, ?_⟩
    · intro c1
      have r2 := w.at (a := 187) (k := 1) rfl
      have k3 := z_le c1
      refine ⟨?_, ?_⟩
      · exact vpi (by omega) (by omega)
      · have w4 : WT (uI m 187 16 (0 : Int32)) := w.t rfl (by show (0 : Int) ≤ (0 : Int); omega) (by show (0 : Int) ≤ 16; omega)
        have f4 : Fx (RS [20, 26]) m0 (uI m 187 16 (0 : Int32)) := f.i rfl
        refine (s_X12_tell w4 (by show (0 : Int) ≤ 15; omega)).to ?_
        rintro _ m1 ⟨w_m1, g5, rfl, p6⟩
        have f_m1 : Fx (RS [20, 26]) m0 m1 := f4.tr g5 (RS_sub rfl)
        have p7 : (m1.1 187 16).toInt = (0 : Int) + 1 := p6
        clear p6
        have e8 : (m1.1 187 1).toInt = ((m.1 187 1)).toInt := congrArg _ (g5.at (a := 187) (k := 1) (by decide))
        have e9 : (m1.1 187 0).toInt = ((m.1 187 0)).toInt := congrArg _ (g5.at (a := 187) (k := 0) (by decide))
        refine ⟨rfl, ?_⟩
        have r10 := w_m1.at (a := 187) (k := 16) rfl
        refine (s_X12_tell w_m1 (by show ((m1.1 187 16)).toInt ≤ 15; omega)).to ?_
        rintro _ m2 ⟨w_m2, g11, rfl, p12⟩
        have f_m2 : Fx (RS [20, 26]) m0 m2 := f_m1.tr g11 (RS_sub rfl)
        have p13 : (m2.1 187 16).toInt = ((m1.1 187 16)).toInt + 1 := p12
        clear p12
        have e14 : (m2.1 187 1).toInt = ((m1.1 187 1)).toInt := congrArg _ (g11.at (a := 187) (k := 1) (by decide))
        have e15 : (m2.1 187 0).toInt = ((m1.1 187 0)).toInt := congrArg _ (g11.at (a := 187) (k := 0) (by decide))
        refine ⟨rfl, ?_⟩
        have r16 := w_m2.at (a := 187) (k := 16) rfl
        exact ⟨w_m2, f_m2, _, rfl, (by show ((x1).toInt = -2 ∧ ((m2.1 187 16)).toInt = (m0.1 187 16).toInt) ∨ (0 ≤ (x1).toInt ∧ ((m2.1 187 16)).toInt = 2); omega)⟩
    · intro c17
      have r18 := w.at (a := 187) (k := 1) rfl
      have k19 := z_nle c17
      refine ⟨?_, ?_⟩
      · exact vpi (by omega) (by omega)
      · refine ⟨?_, ?_⟩
        · exact vpi (by omega) (by omega)
        · refine ⟨?_, ?_⟩
          · exact vpi (by omega) (by omega)
          · refine ⟨?_, ?_⟩
            · intro c20
              have k21 := z_le c20
              have t22 := ti_addc (x := x3) (y := (1 : Int32)) (c := 1) rfl (by omega)
              exact ih _ _ _ _ w f (by show (0 : Int) ≤ (x1).toInt; omega) (by show (x1).toInt ≤ (7 : Int); omega) (by show (0 : Int) ≤ ((x3 + (1 : Int32))).toInt; omega) (by show ((x3 + (1 : Int32))).toInt ≤ (8 : Int); omega) (by show 8 - ((x3 + (1 : Int32))).toInt < _; omega)
            · intro c23
              have k24 := z_nle c23
              have t25 := ti_addc (x := x3) (y := (1 : Int32)) (c := 1) rfl (by omega)
              exact ih _ _ _ _ w f (by show (0 : Int) ≤ (x3).toInt; omega) (by show (x3).toInt ≤ (7 : Int); omega) (by show (0 : Int) ≤ ((x3 + (1 : Int32))).toInt; omega) (by show ((x3 + (1 : Int32))).toInt ≤ (8 : Int); omega) (by show 8 - ((x3 + (1 : Int32))).toInt < _; omega)
set_option maxHeartbeats 4000000 in
theorem n_X12_prize {ad : Nat → Nat} {d : Nat} {m : Wm} (w : WT m) : Ct ad μX12_prize (d + 1) [.ref (ad 187)] m (fun r m' => WT m' ∧ Fx (RS [20, 26]) m m' ∧ ∃ v : Int32, r = some (.int v) ∧ ((v.toInt = -2 ∧ (m'.1 187 16).toInt = (m.1 187 16).toInt) ∨ (0 ≤ v.toInt ∧ (m'.1 187 16).toInt = 2))) := by
  have f : Fx (RS [20, 26]) m m := Fx.rf
  refine v_X12_prize  ?_
  refine ⟨?_, ?_⟩
  · intro c1
    have r2 := w.at (a := 187) (k := 1) rfl
    have c3 : ¬ (m.1 187 1) = (0 : Int32) := c1
    have k4 := y_ner (n := 0) rfl c3
    have w5 : WT (uI m 187 17 (0 : Int32)) := w.n rfl
    have f5 : Fx (RS [20, 26]) m (uI m 187 17 (0 : Int32)) := f.i rfl
    exact (nl_X12_prize (m0 := m) 1000000) _ _ _ _ w5 f5 (by show (0 : Int) ≤ (0 : Int); omega) (by show (0 : Int) ≤ (7 : Int); omega) (by show (0 : Int) ≤ (0 : Int); omega) (by show (0 : Int) ≤ (8 : Int); omega) (by show 8 - (0 : Int) < _; omega)
  · intro c6
    have r7 := w.at (a := 187) (k := 1) rfl
    have c8 : (m.1 187 1) = (0 : Int32) := c6
    have k9 := y_eqr (n := 0) rfl c8
    have w10 : WT (uI m 187 17 (0 : Int32)) := w.n rfl
    have f10 : Fx (RS [20, 26]) m (uI m 187 17 (0 : Int32)) := f.i rfl
    have r11 := w.at (a := 187) (k := 16) rfl
    exact ⟨w10, f10, _, rfl, (by show ((-2 : Int) = -2 ∧ ((m.1 187 16)).toInt = (m.1 187 16).toInt) ∨ (0 ≤ (-2 : Int) ∧ ((m.1 187 16)).toInt = 2); omega)⟩
set_option maxHeartbeats 4000000 in
theorem nl_X12_laws {ad : Nat → Nat} {d : Nat} {m0 : Wm}  : ∀ n : Nat, (∀ (m : Wm) (x1 x2 x3 x4 x5 : Int32), WT m → Fx (RS [20, 22, 24, 26, 28, 29, 30, 31, 47, 49]) m0 m → (0 : Int) ≤ x1.toInt → x1.toInt ≤ (50 : Int) → (0 : Int) ≤ x5.toInt → x5.toInt ≤ (4 : Int) → (0 : Int) ≤ x3.toInt → x3.toInt ≤ (3 : Int) → (1 ≤ (m.1 187 11).toInt) → ((m.1 187 16).toInt = x5.toInt) → 4 - x5.toInt < (n : Int) → AW ad E0 μX12_laws (d + 172) (fun r m' => WT m' ∧ Fx (RS [20, 22, 24, 26, 28, 29, 30, 31, 47, 49]) m0 m' ∧ ∃ v : Int32, r = some (.int v) ∧ ((v.toInt = -1 ∧ (m'.1 187 16).toInt = (m0.1 187 16).toInt) ∨ (0 ≤ v.toInt ∧ (m'.1 187 16).toInt = 4))) 55 [(0, .ref (ad 187)), (1, .int x1), (2, .int x2), (3, .int x3), (4, .int x4), (5, .int x5)] [] m) := by
  intro n
  induction n with
  | zero =>
    intros
    exfalso
    omega
  | succ n ih =>
    intro m x1 x2 x3 x4 x5 w f j1 j2 j3 j4 j5 j6 j7 j8 hn
    refine g_X12_laws_55  ?_
    refine ⟨?_, ?_⟩
    · intro c1
      have k2 := y_lel (n := 4) rfl c1
      have w3 : WT (uI m 193 ((0 : Int32).toNatClampNeg) x2) := w.n rfl
      have f3 : Fx (RS [20, 22, 24, 26, 28, 29, 30, 31, 47, 49]) m0 (uI m 193 ((0 : Int32).toNatClampNeg) x2) := f.i rfl
      have r4 := w.at (a := 187) (k := 16) rfl
      exact ⟨w3, f3, _, rfl, (by show ((x3).toInt = -1 ∧ ((m.1 187 16)).toInt = (m0.1 187 16).toInt) ∨ (0 ≤ (x3).toInt ∧ ((m.1 187 16)).toInt = 4); omega)⟩
    · intro c5
      have k6 := y_nlel (n := 4) rfl c5
      have w7 : WT (uI m 193 ((0 : Int32).toNatClampNeg) x5) := w.n rfl
      have f7 : Fx (RS [20, 22, 24, 26, 28, 29, 30, 31, 47, 49]) m0 (uI m 193 ((0 : Int32).toNatClampNeg) x5) := f.i rfl
      have r8 := w.at (a := 187) (k := 11) rfl
      refine (n_X12_goRounds w7 (by show (0 : Int) ≤ (x1).toInt; omega) (by show (x1).toInt ≤ (200 : Int); omega) (by show 1 ≤ ((m.1 187 11)).toInt; omega)).to ?_
      rintro _ m1 ⟨w_m1, g9, rfl, p10⟩
      have f_m1 : Fx (RS [20, 22, 24, 26, 28, 29, 30, 31, 47, 49]) m0 m1 := f7.tr g9 (RS_sub rfl)
      have p11 : 0 ≤ (m1.1 187 32).toInt := p10
      clear p10
      have e12 : (m1.1 187 11).toInt = ((m.1 187 11)).toInt := congrArg _ (g9.at (a := 187) (k := 11) (by decide))
      have e13 : (m1.1 187 10).toInt = ((m.1 187 10)).toInt := congrArg _ (g9.at (a := 187) (k := 10) (by decide))
      have e14 : (m1.1 187 16).toInt = ((m.1 187 16)).toInt := congrArg _ (g9.at (a := 187) (k := 16) (by decide))
      have e15 : (m1.1 187 1).toInt = ((m.1 187 1)).toInt := congrArg _ (g9.at (a := 187) (k := 1) (by decide))
      have e16 : (m1.1 187 0).toInt = ((m.1 187 0)).toInt := congrArg _ (g9.at (a := 187) (k := 0) (by decide))
      refine ⟨rfl, ?_⟩
      refine (s_X12_sumOfAll w_m1).to ?_
      rintro _ m2 ⟨w_m2, g17, v3, rfl⟩
      have f_m2 : Fx (RS [20, 22, 24, 26, 28, 29, 30, 31, 47, 49]) m0 m2 := f_m1.tr g17 (RS_sub rfl)
      have e18 : (m2.1 187 11).toInt = ((m1.1 187 11)).toInt := congrArg _ (g17.at (a := 187) (k := 11) (by decide))
      have e19 : (m2.1 187 10).toInt = ((m1.1 187 10)).toInt := congrArg _ (g17.at (a := 187) (k := 10) (by decide))
      have e20 : (m2.1 187 16).toInt = ((m1.1 187 16)).toInt := congrArg _ (g17.at (a := 187) (k := 16) (by decide))
      have e21 : (m2.1 187 1).toInt = ((m1.1 187 1)).toInt := congrArg _ (g17.at (a := 187) (k := 1) (by decide))
      have e22 : (m2.1 187 0).toInt = ((m1.1 187 0)).toInt := congrArg _ (g17.at (a := 187) (k := 0) (by decide))
      refine ⟨v3, rfl, ?_⟩
      refine (s_X12_bring_202 w_m2 (by show (0 : Int) ≤ (0 : Int); omega) (by show (0 : Int) ≤ (0 : Int); omega)).to ?_
      rintro _ m4 ⟨w_m4, g23, rfl⟩
      have f_m4 : Fx (RS [20, 22, 24, 26, 28, 29, 30, 31, 47, 49]) m0 m4 := f_m2.tr g23 (RS_sub rfl)
      have e24 : (m4.1 187 11).toInt = ((m2.1 187 11)).toInt := congrArg _ (g23.at (a := 187) (k := 11) (by decide))
      have e25 : (m4.1 187 10).toInt = ((m2.1 187 10)).toInt := congrArg _ (g23.at (a := 187) (k := 10) (by decide))
      have e26 : (m4.1 187 16).toInt = ((m2.1 187 16)).toInt := congrArg _ (g23.at (a := 187) (k := 16) (by decide))
      have e27 : (m4.1 187 1).toInt = ((m2.1 187 1)).toInt := congrArg _ (g23.at (a := 187) (k := 1) (by decide))
      have e28 : (m4.1 187 0).toInt = ((m2.1 187 0)).toInt := congrArg _ (g23.at (a := 187) (k := 0) (by decide))
      refine ⟨rfl, ?_⟩
      have r29 := w_m4.at (a := 187) (k := 16) rfl
      refine (s_X12_tell w_m4 (by show ((m4.1 187 16)).toInt ≤ 15; omega)).to ?_
      rintro _ m5 ⟨w_m5, g30, rfl, p31⟩
      have f_m5 : Fx (RS [20, 22, 24, 26, 28, 29, 30, 31, 47, 49]) m0 m5 := f_m4.tr g30 (RS_sub rfl)
      have p32 : (m5.1 187 16).toInt = ((m4.1 187 16)).toInt + 1 := p31
      clear p31
      have e33 : (m5.1 187 11).toInt = ((m4.1 187 11)).toInt := congrArg _ (g30.at (a := 187) (k := 11) (by decide))
      have e34 : (m5.1 187 10).toInt = ((m4.1 187 10)).toInt := congrArg _ (g30.at (a := 187) (k := 10) (by decide))
      have e35 : (m5.1 187 1).toInt = ((m4.1 187 1)).toInt := congrArg _ (g30.at (a := 187) (k := 1) (by decide))
      have e36 : (m5.1 187 0).toInt = ((m4.1 187 0)).toInt := congrArg _ (g30.at (a := 187) (k := 0) (by decide))
      refine ⟨rfl, ?_⟩
      refine ⟨?_, ?_⟩
      · intro c37
        have k38 := y_ler (n := 0) rfl c37
        have t39 := ti_addc (x := x5) (y := (1 : Int32)) (c := 1) rfl (by omega)
        have r40 := w_m5.at (a := 187) (k := 11) rfl
        have r41 := w_m5.at (a := 187) (k := 16) rfl
        exact ih _ _ _ _ _ _ w_m5 f_m5 (by show (0 : Int) ≤ (x1).toInt; omega) (by show (x1).toInt ≤ (50 : Int); omega) (by show (0 : Int) ≤ ((x5 + (1 : Int32))).toInt; omega) (by show ((x5 + (1 : Int32))).toInt ≤ (4 : Int); omega) (by show (0 : Int) ≤ (x5).toInt; omega) (by show (x5).toInt ≤ (3 : Int); omega) (by show 1 ≤ ((m5.1 187 11)).toInt; omega) (by show ((m5.1 187 16)).toInt = ((x5 + (1 : Int32))).toInt; omega) (by show 4 - ((x5 + (1 : Int32))).toInt < _; omega)
      · intro c42
        have k43 := y_nler (n := 0) rfl c42
        refine ⟨?_, ?_⟩
        · intro c44
          have k45 := z_lt c44
          have t46 := ti_addc (x := x5) (y := (1 : Int32)) (c := 1) rfl (by omega)
          have r47 := w_m5.at (a := 187) (k := 11) rfl
          have r48 := w_m5.at (a := 187) (k := 16) rfl
          exact ih _ _ _ _ _ _ w_m5 f_m5 (by show (0 : Int) ≤ (x1).toInt; omega) (by show (x1).toInt ≤ (50 : Int); omega) (by show (0 : Int) ≤ ((x5 + (1 : Int32))).toInt; omega) (by show ((x5 + (1 : Int32))).toInt ≤ (4 : Int); omega) (by show (0 : Int) ≤ (x5).toInt; omega) (by show (x5).toInt ≤ (3 : Int); omega) (by show 1 ≤ ((m5.1 187 11)).toInt; omega) (by show ((m5.1 187 16)).toInt = ((x5 + (1 : Int32))).toInt; omega) (by show 4 - ((x5 + (1 : Int32))).toInt < _; omega)
        · intro c49
          have k50 := z_nlt c49
          have t51 := ti_addc (x := x5) (y := (1 : Int32)) (c := 1) rfl (by omega)
          have r52 := w_m5.at (a := 187) (k := 11) rfl
          have r53 := w_m5.at (a := 187) (k := 16) rfl
          exact ih _ _ _ _ _ _ w_m5 f_m5 (by show (0 : Int) ≤ (x1).toInt; omega) (by show (x1).toInt ≤ (50 : Int); omega) (by show (0 : Int) ≤ ((x5 + (1 : Int32))).toInt; omega) (by show ((x5 + (1 : Int32))).toInt ≤ (4 : Int); omega) (by show (0 : Int) ≤ (x3).toInt; omega) (by show (x3).toInt ≤ (3 : Int); omega) (by show 1 ≤ ((m5.1 187 11)).toInt; omega) (by show ((m5.1 187 16)).toInt = ((x5 + (1 : Int32))).toInt; omega) (by show 4 - ((x5 + (1 : Int32))).toInt < _; omega)
set_option maxHeartbeats 4000000 in
theorem n_X12_laws {ad : Nat → Nat} {d : Nat} {m : Wm} {x1 : Int32} (w : WT m) : Ct ad μX12_laws (d + 172) [.ref (ad 187), .int x1] m (fun r m' => WT m' ∧ Fx (RS [20, 22, 24, 26, 28, 29, 30, 31, 47, 49]) m m' ∧ ∃ v : Int32, r = some (.int v) ∧ ((v.toInt = -1 ∧ (m'.1 187 16).toInt = (m.1 187 16).toInt) ∨ (0 ≤ v.toInt ∧ (m'.1 187 16).toInt = 4))) := by
  have f : Fx (RS [20, 22, 24, 26, 28, 29, 30, 31, 47, 49]) m m := Fx.rf
  refine v_X12_laws  ?_
  have w1 : WT (uI m 187 17 (0 : Int32)) := w.n rfl
  have f1 : Fx (RS [20, 22, 24, 26, 28, 29, 30, 31, 47, 49]) m (uI m 187 17 (0 : Int32)) := f.i rfl
  refine (s_X12_in (x := x1) (lo := (0 : Int32)) (hi := (50 : Int32)) w1 rfl rfl).to ?_
  rintro _ m1 ⟨w_m1, g2, v2, rfl, p4, p5, p3⟩
  have f_m1 : Fx (RS [20, 22, 24, 26, 28, 29, 30, 31, 47, 49]) m m1 := f1.tr g2 (RS_sub rfl)
  have p6 : (v2.toInt = 0 ∧ ((x1).toInt < (0 : Int) ∨ (50 : Int) < (x1).toInt)) ∨ (v2.toInt = 1 ∧ (0 : Int) ≤ (x1).toInt ∧ (x1).toInt ≤ (50 : Int)) := p3
  clear p3
  have e7 : (m1.1 187 11).toInt = ((m.1 187 11)).toInt := congrArg _ (g2.at (a := 187) (k := 11) (by decide))
  have e8 : (m1.1 187 10).toInt = ((m.1 187 10)).toInt := congrArg _ (g2.at (a := 187) (k := 10) (by decide))
  have e9 : (m1.1 187 16).toInt = ((m.1 187 16)).toInt := congrArg _ (g2.at (a := 187) (k := 16) (by decide))
  have e10 : (m1.1 187 1).toInt = ((m.1 187 1)).toInt := congrArg _ (g2.at (a := 187) (k := 1) (by decide))
  have e11 : (m1.1 187 0).toInt = ((m.1 187 0)).toInt := congrArg _ (g2.at (a := 187) (k := 0) (by decide))
  refine ⟨v2, rfl, ?_⟩
  refine ⟨?_, ?_⟩
  · intro c12
    have k13 := y_eqr (n := 0) rfl c12
    have r14 := w_m1.at (a := 187) (k := 16) rfl
    exact ⟨w_m1, f_m1, _, rfl, (by show ((-1 : Int) = -1 ∧ ((m1.1 187 16)).toInt = (m.1 187 16).toInt) ∨ (0 ≤ (-1 : Int) ∧ ((m1.1 187 16)).toInt = 4); omega)⟩
  · intro c15
    have k16 := y_ner (n := 0) rfl c15
    refine ⟨?_, ?_⟩
    · intro c17
      have r18 := w_m1.at (a := 187) (k := 11) rfl
      have k19 := y_ner (n := 0) rfl c17
      refine (s_X12_lay_202 w_m1 (by show (0 : Int) ≤ (0 : Int); omega) (by show (0 : Int) ≤ (0 : Int); omega)).to ?_
      rintro _ m3 ⟨w_m3, g20, rfl⟩
      have f_m3 : Fx (RS [20, 22, 24, 26, 28, 29, 30, 31, 47, 49]) m m3 := f_m1.tr g20 (RS_sub rfl)
      have e21 : (m3.1 187 11).toInt = ((m1.1 187 11)).toInt := congrArg _ (g20.at (a := 187) (k := 11) (by decide))
      have e22 : (m3.1 187 10).toInt = ((m1.1 187 10)).toInt := congrArg _ (g20.at (a := 187) (k := 10) (by decide))
      have e23 : (m3.1 187 16).toInt = ((m1.1 187 16)).toInt := congrArg _ (g20.at (a := 187) (k := 16) (by decide))
      have e24 : (m3.1 187 1).toInt = ((m1.1 187 1)).toInt := congrArg _ (g20.at (a := 187) (k := 1) (by decide))
      have e25 : (m3.1 187 0).toInt = ((m1.1 187 0)).toInt := congrArg _ (g20.at (a := 187) (k := 0) (by decide))
      refine ⟨rfl, ?_⟩
      have w26 : WT (uI m3 187 16 (0 : Int32)) := w_m3.t rfl (by show (0 : Int) ≤ (0 : Int); omega) (by show (0 : Int) ≤ 16; omega)
      have f26 : Fx (RS [20, 22, 24, 26, 28, 29, 30, 31, 47, 49]) m (uI m3 187 16 (0 : Int32)) := f_m3.i rfl
      have r27 := w_m3.at (a := 187) (k := 11) rfl
      exact (nl_X12_laws (m0 := m) 1000000) _ _ _ _ _ _ w26 f26 (by show (0 : Int) ≤ (x1).toInt; omega) (by show (x1).toInt ≤ (50 : Int); omega) (by show (0 : Int) ≤ (0 : Int); omega) (by show (0 : Int) ≤ (4 : Int); omega) (by show (0 : Int) ≤ (0 : Int); omega) (by show (0 : Int) ≤ (3 : Int); omega) (by show 1 ≤ ((m3.1 187 11)).toInt; omega) (by show (0 : Int) = (0 : Int); omega) (by show 4 - (0 : Int) < _; omega)
    · intro c28
      have r29 := w_m1.at (a := 187) (k := 11) rfl
      have k30 := y_eqr (n := 0) rfl c28
      have r31 := w_m1.at (a := 187) (k := 16) rfl
      exact ⟨w_m1, f_m1, _, rfl, (by show ((-1 : Int) = -1 ∧ ((m1.1 187 16)).toInt = (m.1 187 16).toInt) ∨ (0 ≤ (-1 : Int) ∧ ((m1.1 187 16)).toInt = 4); omega)⟩
set_option maxHeartbeats 4000000 in
theorem nl_X12_soon {ad : Nat → Nat} {d : Nat} {m0 : Wm}  : ∀ n : Nat, (∀ (m : Wm) (x1 x2 x3 x4 x5 : Int32), WT m → Fx (RS [20, 22, 24, 28, 34, 35, 49]) m0 m → (0 : Int) ≤ x1.toInt → x1.toInt ≤ (7 : Int) → (0 : Int) ≤ x2.toInt → x2.toInt ≤ (3 : Int) → (0 : Int) ≤ x5.toInt → x5.toInt ≤ (3000 : Int) → 3000 - x5.toInt < (n : Int) → AW ad E0 μX12_soon (d + 178) (fun r m' => WT m' ∧ Fx (RS [20, 22, 24, 28, 34, 35, 49]) m0 m' ∧ ∃ v : Int32, r = some (.int v)) 51 [(0, .ref (ad 187)), (1, .int x1), (2, .int x2), (3, .int x3), (4, .int x4), (5, .int x5)] [] m) := by
  intro n
  induction n with
  | zero =>
    intros
    exfalso
    omega
  | succ n ih =>
    intro m x1 x2 x3 x4 x5 w f j1 j2 j3 j4 j5 j6 hn
    refine g_X12_soon_51  ?_
    refine ⟨?_, ?_⟩
    · intro c1
      have r2 := w.at (a := 187) (k := 43) rfl
      have k3 := z_le c1
      refine ⟨?_, ?_⟩
      · intro c4
        have k5 := y_eqr (n := 0) rfl c4
        exact ⟨w, f, _, rfl⟩
      · intro c6
        have k7 := y_ner (n := 0) rfl c6
        exact ⟨w, f, _, rfl⟩
    · intro c8
      have r9 := w.at (a := 187) (k := 43) rfl
      have k10 := z_nle c8
      refine (s_X12_skillIn w (by show (0 : Int) ≤ (x5).toInt; omega) (by show (x5).toInt ≤ (2999 : Int); omega) (by show (0 : Int) ≤ (x1).toInt; omega) (by show (x1).toInt ≤ (7 : Int); omega) (by show (0 : Int) ≤ (x2).toInt; omega) (by show (x2).toInt ≤ (3 : Int); omega)).to ?_
      rintro _ m1 ⟨w_m1, g11, v2, rfl⟩
      have f_m1 : Fx (RS [20, 22, 24, 28, 34, 35, 49]) m0 m1 := f.tr g11 (RS_sub rfl)
      have e12 : (m1.1 187 1).toInt = ((m.1 187 1)).toInt := congrArg _ (g11.at (a := 187) (k := 1) (by decide))
      have e13 : (m1.1 187 0).toInt = ((m.1 187 0)).toInt := congrArg _ (g11.at (a := 187) (k := 0) (by decide))
      refine ⟨v2, rfl, ?_⟩
      refine ⟨?_, ?_⟩
      · intro c14
        have k15 := z_lt c14
        have t16 := ti_addc (x := x5) (y := (1 : Int32)) (c := 1) rfl (by omega)
        exact ih _ _ _ _ _ _ w_m1 f_m1 (by show (0 : Int) ≤ (x1).toInt; omega) (by show (x1).toInt ≤ (7 : Int); omega) (by show (0 : Int) ≤ (x2).toInt; omega) (by show (x2).toInt ≤ (3 : Int); omega) (by show (0 : Int) ≤ ((x5 + (1 : Int32))).toInt; omega) (by show ((x5 + (1 : Int32))).toInt ≤ (3000 : Int); omega) (by show 3000 - ((x5 + (1 : Int32))).toInt < _; omega)
      · intro c17
        have k18 := z_nlt c17
        exact ⟨w_m1, f_m1, _, rfl⟩
set_option maxHeartbeats 4000000 in
theorem n_X12_soon {ad : Nat → Nat} {d : Nat} {m : Wm} {x1 x2 x3 : Int32} (w : WT m) : Ct ad μX12_soon (d + 178) [.ref (ad 187), .int x1, .int x2, .int x3] m (fun r m' => WT m' ∧ Fx (RS [20, 22, 24, 28, 34, 35, 49]) m m' ∧ ∃ v : Int32, r = some (.int v)) := by
  have f : Fx (RS [20, 22, 24, 28, 34, 35, 49]) m m := Fx.rf
  refine v_X12_soon  ?_
  have w1 : WT (uI m 187 17 (0 : Int32)) := w.n rfl
  have f1 : Fx (RS [20, 22, 24, 28, 34, 35, 49]) m (uI m 187 17 (0 : Int32)) := f.i rfl
  refine (s_X12_isSide w1).to ?_
  rintro _ m1 ⟨w_m1, g2, v2, rfl, p4, p5, p3⟩
  have f_m1 : Fx (RS [20, 22, 24, 28, 34, 35, 49]) m m1 := f1.tr g2 (RS_sub rfl)
  have p6 : (v2.toInt = 0 ∧ ((x1).toInt < 0 ∨ ((m.1 187 1)).toInt ≤ (x1).toInt)) ∨ (v2.toInt = 1 ∧ 0 ≤ (x1).toInt ∧ (x1).toInt < ((m.1 187 1)).toInt) := p3
  clear p3
  have e7 : (m1.1 187 1).toInt = ((m.1 187 1)).toInt := congrArg _ (g2.at (a := 187) (k := 1) (by decide))
  have e8 : (m1.1 187 0).toInt = ((m.1 187 0)).toInt := congrArg _ (g2.at (a := 187) (k := 0) (by decide))
  refine ⟨v2, rfl, ?_⟩
  refine ⟨?_, ?_⟩
  · intro c9
    have k10 := y_eqr (n := 0) rfl c9
    exact ⟨w_m1, f_m1, _, rfl⟩
  · intro c11
    have k12 := y_ner (n := 0) rfl c11
    have r13 := w.at (a := 187) (k := 1) rfl
    refine (s_X12_isArt w_m1).to ?_
    rintro _ m3 ⟨w_m3, g14, v4, rfl, p16, p17, p15⟩
    have f_m3 : Fx (RS [20, 22, 24, 28, 34, 35, 49]) m m3 := f_m1.tr g14 (RS_sub rfl)
    have p18 : (v4.toInt = 0 ∧ ((x2).toInt < 0 ∨ ((m1.1 187 0)).toInt ≤ (x2).toInt)) ∨ (v4.toInt = 1 ∧ 0 ≤ (x2).toInt ∧ (x2).toInt < ((m1.1 187 0)).toInt) := p15
    clear p15
    have e19 : (m3.1 187 1).toInt = ((m1.1 187 1)).toInt := congrArg _ (g14.at (a := 187) (k := 1) (by decide))
    have e20 : (m3.1 187 0).toInt = ((m1.1 187 0)).toInt := congrArg _ (g14.at (a := 187) (k := 0) (by decide))
    refine ⟨v4, rfl, ?_⟩
    refine ⟨?_, ?_⟩
    · intro c21
      have k22 := y_eqr (n := 0) rfl c21
      exact ⟨w_m3, f_m3, _, rfl⟩
    · intro c23
      have k24 := y_ner (n := 0) rfl c23
      have r25 := w_m1.at (a := 187) (k := 0) rfl
      refine (s_X12_in (x := x3) (lo := (0 : Int32)) (hi := (7 : Int32)) w_m3 rfl rfl).to ?_
      rintro _ m5 ⟨w_m5, g26, v6, rfl, p28, p29, p27⟩
      have f_m5 : Fx (RS [20, 22, 24, 28, 34, 35, 49]) m m5 := f_m3.tr g26 (RS_sub rfl)
      have p30 : (v6.toInt = 0 ∧ ((x3).toInt < (0 : Int) ∨ (7 : Int) < (x3).toInt)) ∨ (v6.toInt = 1 ∧ (0 : Int) ≤ (x3).toInt ∧ (x3).toInt ≤ (7 : Int)) := p27
      clear p27
      have e31 : (m5.1 187 1).toInt = ((m3.1 187 1)).toInt := congrArg _ (g26.at (a := 187) (k := 1) (by decide))
      have e32 : (m5.1 187 0).toInt = ((m3.1 187 0)).toInt := congrArg _ (g26.at (a := 187) (k := 0) (by decide))
      refine ⟨v6, rfl, ?_⟩
      refine ⟨?_, ?_⟩
      · intro c33
        have k34 := y_eqr (n := 0) rfl c33
        exact ⟨w_m5, f_m5, _, rfl⟩
      · intro c35
        have k36 := y_ner (n := 0) rfl c35
        refine ⟨?_, ?_⟩
        · intro c37
          have r38 := w_m5.at (a := 187) (k := 11) rfl
          have k39 := y_ner (n := 0) rfl c37
          refine (s_X12_findRest w_m5).to ?_
          rintro _ m7 ⟨w_m7, g40, v8, rfl, p42, p43, p41⟩
          have f_m7 : Fx (RS [20, 22, 24, 28, 34, 35, 49]) m m7 := f_m5.tr g40 (RS_sub rfl)
          have p44 : v8.toInt = 0 ∨ (1 ≤ (m7.1 187 46).toInt ∧ (m7.1 187 45).toInt + (m7.1 187 46).toInt ≤ 2000) := p41
          clear p41
          have e45 : (m7.1 187 1).toInt = ((m5.1 187 1)).toInt := congrArg _ (g40.at (a := 187) (k := 1) (by decide))
          have e46 : (m7.1 187 0).toInt = ((m5.1 187 0)).toInt := congrArg _ (g40.at (a := 187) (k := 0) (by decide))
          refine ⟨v8, rfl, ?_⟩
          exact (nl_X12_soon (m0 := m) 1000000) _ _ _ _ _ _ w_m7 f_m7 (by show (0 : Int) ≤ (x1).toInt; omega) (by show (x1).toInt ≤ (7 : Int); omega) (by show (0 : Int) ≤ (x2).toInt; omega) (by show (x2).toInt ≤ (3 : Int); omega) (by show (0 : Int) ≤ (0 : Int); omega) (by show (0 : Int) ≤ (3000 : Int); omega) (by show 3000 - (0 : Int) < _; omega)
        · intro c47
          have r48 := w_m5.at (a := 187) (k := 11) rfl
          have k49 := y_eqr (n := 0) rfl c47
          exact ⟨w_m5, f_m5, _, rfl⟩
set_option maxHeartbeats 4000000 in
theorem nl_X12_best {ad : Nat → Nat} {d : Nat} {m0 : Wm}  : ∀ n : Nat, (∀ (m : Wm) (x1 x3 x4 x5 : Int32), WT m → Fx (RS [20, 22, 24, 26, 28, 34, 35, 49]) m0 m → (0 : Int) ≤ x1.toInt → x1.toInt ≤ (7 : Int) → (0 : Int) ≤ x3.toInt → x3.toInt ≤ (2999 : Int) → (0 : Int) ≤ x5.toInt → x5.toInt ≤ (3000 : Int) → 3000 - x5.toInt < (n : Int) → AW ad E0 μX12_best (d + 178) (fun r m' => WT m' ∧ Fx (RS [20, 22, 24, 26, 28, 34, 35, 49]) m0 m' ∧ ∃ v : Int32, r = some (.int v) ∧ ((m'.1 187 16).toInt = 1)) 46 [(0, .ref (ad 187)), (1, .int x1), (3, .int x3), (4, .int x4), (5, .int x5)] [] m) := by
  intro n
  induction n with
  | zero =>
    intros
    exfalso
    omega
  | succ n ih =>
    intro m x1 x3 x4 x5 w f j1 j2 j3 j4 j5 j6 hn
    refine g_X12_best_46  ?_
    refine ⟨?_, ?_⟩
    · intro c1
      have r2 := w.at (a := 187) (k := 43) rfl
      have k3 := z_le c1
      refine (s_X12_bring_204 w (by show (0 : Int) ≤ (0 : Int); omega) (by show (0 : Int) ≤ (0 : Int); omega)).to ?_
      rintro _ m1 ⟨w_m1, g4, rfl⟩
      have f_m1 : Fx (RS [20, 22, 24, 26, 28, 34, 35, 49]) m0 m1 := f.tr g4 (RS_sub rfl)
      have e5 : (m1.1 187 16).toInt = ((m.1 187 16)).toInt := congrArg _ (g4.at (a := 187) (k := 16) (by decide))
      have e6 : (m1.1 187 1).toInt = ((m.1 187 1)).toInt := congrArg _ (g4.at (a := 187) (k := 1) (by decide))
      have e7 : (m1.1 187 0).toInt = ((m.1 187 0)).toInt := congrArg _ (g4.at (a := 187) (k := 0) (by decide))
      refine ⟨rfl, ?_⟩
      refine ⟨?_, ?_⟩
      · exact vpi (by omega) (by omega)
      · have w8 : WT (uI m1 187 16 (0 : Int32)) := w_m1.t rfl (by show (0 : Int) ≤ (0 : Int); omega) (by show (0 : Int) ≤ 16; omega)
        have f8 : Fx (RS [20, 22, 24, 26, 28, 34, 35, 49]) m0 (uI m1 187 16 (0 : Int32)) := f_m1.i rfl
        refine (s_X12_tell w8 (by show (0 : Int) ≤ 15; omega)).to ?_
        rintro _ m2 ⟨w_m2, g9, rfl, p10⟩
        have f_m2 : Fx (RS [20, 22, 24, 26, 28, 34, 35, 49]) m0 m2 := f8.tr g9 (RS_sub rfl)
        have p11 : (m2.1 187 16).toInt = (0 : Int) + 1 := p10
        clear p10
        have e12 : (m2.1 187 1).toInt = ((m1.1 187 1)).toInt := congrArg _ (g9.at (a := 187) (k := 1) (by decide))
        have e13 : (m2.1 187 0).toInt = ((m1.1 187 0)).toInt := congrArg _ (g9.at (a := 187) (k := 0) (by decide))
        refine ⟨rfl, ?_⟩
        have r14 := w_m2.at (a := 187) (k := 16) rfl
        exact ⟨w_m2, f_m2, _, rfl, (by show ((m2.1 187 16)).toInt = 1; omega)⟩
    · intro c15
      have r16 := w.at (a := 187) (k := 43) rfl
      have k17 := z_nle c15
      refine (s_X12_load w (by show (0 : Int) ≤ (x5).toInt; omega) (by show (x5).toInt ≤ (2999 : Int); omega)).to ?_
      rintro _ m3 ⟨w_m3, g18, rfl⟩
      have f_m3 : Fx (RS [20, 22, 24, 26, 28, 34, 35, 49]) m0 m3 := f.tr g18 (RS_sub rfl)
      have e19 : (m3.1 187 16).toInt = ((m.1 187 16)).toInt := congrArg _ (g18.at (a := 187) (k := 16) (by decide))
      have e20 : (m3.1 187 1).toInt = ((m.1 187 1)).toInt := congrArg _ (g18.at (a := 187) (k := 1) (by decide))
      have e21 : (m3.1 187 0).toInt = ((m.1 187 0)).toInt := congrArg _ (g18.at (a := 187) (k := 0) (by decide))
      refine ⟨rfl, ?_⟩
      refine (s_X12_power w_m3 (by show (0 : Int) ≤ (x1).toInt; omega) (by show (x1).toInt ≤ (7 : Int); omega)).to ?_
      rintro _ m4 ⟨w_m4, g22, v5, rfl⟩
      have f_m4 : Fx (RS [20, 22, 24, 26, 28, 34, 35, 49]) m0 m4 := f_m3.tr g22 (RS_sub rfl)
      have e23 : (m4.1 187 16).toInt = ((m3.1 187 16)).toInt := congrArg _ (g22.at (a := 187) (k := 16) (by decide))
      have e24 : (m4.1 187 1).toInt = ((m3.1 187 1)).toInt := congrArg _ (g22.at (a := 187) (k := 1) (by decide))
      have e25 : (m4.1 187 0).toInt = ((m3.1 187 0)).toInt := congrArg _ (g22.at (a := 187) (k := 0) (by decide))
      refine ⟨v5, rfl, ?_⟩
      refine ⟨?_, ?_⟩
      · intro c26
        have k27 := y_ler (n := 0) rfl c26
        have t28 := ti_addc (x := x5) (y := (1 : Int32)) (c := 1) rfl (by omega)
        exact ih _ _ _ _ _ w_m4 f_m4 (by show (0 : Int) ≤ (x1).toInt; omega) (by show (x1).toInt ≤ (7 : Int); omega) (by show (0 : Int) ≤ (x5).toInt; omega) (by show (x5).toInt ≤ (2999 : Int); omega) (by show (0 : Int) ≤ ((x5 + (1 : Int32))).toInt; omega) (by show ((x5 + (1 : Int32))).toInt ≤ (3000 : Int); omega) (by show 3000 - ((x5 + (1 : Int32))).toInt < _; omega)
      · intro c29
        have k30 := y_nler (n := 0) rfl c29
        refine ⟨?_, ?_⟩
        · intro c31
          have k32 := z_lt c31
          have t33 := ti_addc (x := x5) (y := (1 : Int32)) (c := 1) rfl (by omega)
          exact ih _ _ _ _ _ w_m4 f_m4 (by show (0 : Int) ≤ (x1).toInt; omega) (by show (x1).toInt ≤ (7 : Int); omega) (by show (0 : Int) ≤ (x5).toInt; omega) (by show (x5).toInt ≤ (2999 : Int); omega) (by show (0 : Int) ≤ ((x5 + (1 : Int32))).toInt; omega) (by show ((x5 + (1 : Int32))).toInt ≤ (3000 : Int); omega) (by show 3000 - ((x5 + (1 : Int32))).toInt < _; omega)
        · intro c34
          have k35 := z_nlt c34
          have t36 := ti_addc (x := x5) (y := (1 : Int32)) (c := 1) rfl (by omega)
          exact ih _ _ _ _ _ w_m4 f_m4 (by show (0 : Int) ≤ (x1).toInt; omega) (by show (x1).toInt ≤ (7 : Int); omega) (by show (0 : Int) ≤ (x3).toInt; omega) (by show (x3).toInt ≤ (2999 : Int); omega) (by show (0 : Int) ≤ ((x5 + (1 : Int32))).toInt; omega) (by show ((x5 + (1 : Int32))).toInt ≤ (3000 : Int); omega) (by show 3000 - ((x5 + (1 : Int32))).toInt < _; omega)
set_option maxHeartbeats 4000000 in
theorem nl_X12_even {ad : Nat → Nat} {d : Nat} {m0 : Wm}  : ∀ n : Nat, (∀ (m : Wm) (x2 x3 x4 : Int32), WT m → Fx (RS [20, 22, 24, 26, 28, 34, 35, 49, 33]) m0 m → (0 : Int) ≤ x2.toInt → x2.toInt ≤ (2999 : Int) → (0 : Int) ≤ x4.toInt → x4.toInt ≤ (3000 : Int) → 3000 - x4.toInt < (n : Int) → AW ad E0 μX12_even (d + 178) (fun r m' => WT m' ∧ Fx (RS [20, 22, 24, 26, 28, 34, 35, 49, 33]) m0 m' ∧ ∃ v : Int32, r = some (.int v) ∧ ((m'.1 187 16).toInt = 1)) 44 [(0, .ref (ad 187)), (2, .int x2), (3, .int x3), (4, .int x4)] [] m) := by
  intro n
  induction n with
  | zero =>
    intros
    exfalso
    omega
  | succ n ih =>
    intro m x2 x3 x4 w f j1 j2 j3 j4 hn
    refine g_X12_even_44  ?_
    refine ⟨?_, ?_⟩
    · intro c1
      have r2 := w.at (a := 187) (k := 43) rfl
      have k3 := z_le c1
      refine (s_X12_bring_204 w (by show (0 : Int) ≤ (0 : Int); omega) (by show (0 : Int) ≤ (0 : Int); omega)).to ?_
      rintro _ m1 ⟨w_m1, g4, rfl⟩
      have f_m1 : Fx (RS [20, 22, 24, 26, 28, 34, 35, 49, 33]) m0 m1 := f.tr g4 (RS_sub rfl)
      have e5 : (m1.1 187 16).toInt = ((m.1 187 16)).toInt := congrArg _ (g4.at (a := 187) (k := 16) (by decide))
      have e6 : (m1.1 187 1).toInt = ((m.1 187 1)).toInt := congrArg _ (g4.at (a := 187) (k := 1) (by decide))
      have e7 : (m1.1 187 0).toInt = ((m.1 187 0)).toInt := congrArg _ (g4.at (a := 187) (k := 0) (by decide))
      refine ⟨rfl, ?_⟩
      refine ⟨?_, ?_⟩
      · exact vpi (by omega) (by omega)
      · have w8 : WT (uI m1 187 16 (0 : Int32)) := w_m1.t rfl (by show (0 : Int) ≤ (0 : Int); omega) (by show (0 : Int) ≤ 16; omega)
        have f8 : Fx (RS [20, 22, 24, 26, 28, 34, 35, 49, 33]) m0 (uI m1 187 16 (0 : Int32)) := f_m1.i rfl
        refine (s_X12_tell w8 (by show (0 : Int) ≤ 15; omega)).to ?_
        rintro _ m2 ⟨w_m2, g9, rfl, p10⟩
        have f_m2 : Fx (RS [20, 22, 24, 26, 28, 34, 35, 49, 33]) m0 m2 := f8.tr g9 (RS_sub rfl)
        have p11 : (m2.1 187 16).toInt = (0 : Int) + 1 := p10
        clear p10
        have e12 : (m2.1 187 1).toInt = ((m1.1 187 1)).toInt := congrArg _ (g9.at (a := 187) (k := 1) (by decide))
        have e13 : (m2.1 187 0).toInt = ((m1.1 187 0)).toInt := congrArg _ (g9.at (a := 187) (k := 0) (by decide))
        refine ⟨rfl, ?_⟩
        have r14 := w_m2.at (a := 187) (k := 16) rfl
        exact ⟨w_m2, f_m2, _, rfl, (by show ((m2.1 187 16)).toInt = 1; omega)⟩
    · intro c15
      have r16 := w.at (a := 187) (k := 43) rfl
      have k17 := z_nle c15
      refine (s_X12_load w (by show (0 : Int) ≤ (x4).toInt; omega) (by show (x4).toInt ≤ (2999 : Int); omega)).to ?_
      rintro _ m3 ⟨w_m3, g18, rfl⟩
      have f_m3 : Fx (RS [20, 22, 24, 26, 28, 34, 35, 49, 33]) m0 m3 := f.tr g18 (RS_sub rfl)
      have e19 : (m3.1 187 16).toInt = ((m.1 187 16)).toInt := congrArg _ (g18.at (a := 187) (k := 16) (by decide))
      have e20 : (m3.1 187 1).toInt = ((m.1 187 1)).toInt := congrArg _ (g18.at (a := 187) (k := 1) (by decide))
      have e21 : (m3.1 187 0).toInt = ((m.1 187 0)).toInt := congrArg _ (g18.at (a := 187) (k := 0) (by decide))
      refine ⟨rfl, ?_⟩
      refine (s_X12_spreadNow w_m3).to ?_
      rintro _ m4 ⟨w_m4, g22, v5, rfl⟩
      have f_m4 : Fx (RS [20, 22, 24, 26, 28, 34, 35, 49, 33]) m0 m4 := f_m3.tr g22 (RS_sub rfl)
      have e23 : (m4.1 187 16).toInt = ((m3.1 187 16)).toInt := congrArg _ (g22.at (a := 187) (k := 16) (by decide))
      have e24 : (m4.1 187 1).toInt = ((m3.1 187 1)).toInt := congrArg _ (g22.at (a := 187) (k := 1) (by decide))
      have e25 : (m4.1 187 0).toInt = ((m3.1 187 0)).toInt := congrArg _ (g22.at (a := 187) (k := 0) (by decide))
      refine ⟨v5, rfl, ?_⟩
      refine ⟨?_, ?_⟩
      · intro c26
        have k27 := y_ler (n := 0) rfl c26
        have t28 := ti_addc (x := x4) (y := (1 : Int32)) (c := 1) rfl (by omega)
        exact ih _ _ _ _ w_m4 f_m4 (by show (0 : Int) ≤ (x4).toInt; omega) (by show (x4).toInt ≤ (2999 : Int); omega) (by show (0 : Int) ≤ ((x4 + (1 : Int32))).toInt; omega) (by show ((x4 + (1 : Int32))).toInt ≤ (3000 : Int); omega) (by show 3000 - ((x4 + (1 : Int32))).toInt < _; omega)
      · intro c29
        have k30 := y_nler (n := 0) rfl c29
        refine ⟨?_, ?_⟩
        · intro c31
          have k32 := z_lt c31
          have t33 := ti_addc (x := x4) (y := (1 : Int32)) (c := 1) rfl (by omega)
          exact ih _ _ _ _ w_m4 f_m4 (by show (0 : Int) ≤ (x4).toInt; omega) (by show (x4).toInt ≤ (2999 : Int); omega) (by show (0 : Int) ≤ ((x4 + (1 : Int32))).toInt; omega) (by show ((x4 + (1 : Int32))).toInt ≤ (3000 : Int); omega) (by show 3000 - ((x4 + (1 : Int32))).toInt < _; omega)
        · intro c34
          have k35 := z_nlt c34
          have t36 := ti_addc (x := x4) (y := (1 : Int32)) (c := 1) rfl (by omega)
          exact ih _ _ _ _ w_m4 f_m4 (by show (0 : Int) ≤ (x2).toInt; omega) (by show (x2).toInt ≤ (2999 : Int); omega) (by show (0 : Int) ≤ ((x4 + (1 : Int32))).toInt; omega) (by show ((x4 + (1 : Int32))).toInt ≤ (3000 : Int); omega) (by show 3000 - ((x4 + (1 : Int32))).toInt < _; omega)
set_option maxHeartbeats 4000000 in
theorem nl_X12_pays {ad : Nat → Nat} {d : Nat} {m0 : Wm}  : ∀ n : Nat, (∀ (m : Wm) (x1 x2 x3 s0 s1 : Int32), WT m → Fx (RS [20, 22, 24, 26, 28, 29, 30, 31, 46, 49]) m0 m → (0 : Int) ≤ x1.toInt → x1.toInt ≤ (7 : Int) → (0 : Int) ≤ x2.toInt → x2.toInt ≤ (50 : Int) → (0 : Int) ≤ s1.toInt → s1.toInt ≤ (7 : Int) → (1 ≤ (m.1 187 11).toInt) → 0 * x1.toInt + 2 < (n : Int) → AW ad E0 μX12_pays (d + 173) (fun r m' => WT m' ∧ Fx (RS [20, 22, 24, 26, 28, 29, 30, 31, 46, 49]) m0 m' ∧ ∃ v : Int32, r = some (.int v) ∧ ((m'.1 187 16).toInt = 2)) 69 [(0, .ref (ad 187)), (1, .int x1), (2, .int x2), (3, .int x3)] [.int s0, .int s1, .ref (ad 189)] m) ∧ (∀ (m : Wm) (x3 x4 s0 s1 : Int32), WT m → Fx (RS [20, 22, 24, 26, 28, 29, 30, 31, 46, 49]) m0 m → (0 : Int) ≤ s1.toInt → s1.toInt ≤ (7 : Int) → 0 * x3.toInt + 1 < (n : Int) → AW ad E0 μX12_pays (d + 173) (fun r m' => WT m' ∧ Fx (RS [20, 22, 24, 26, 28, 29, 30, 31, 46, 49]) m0 m' ∧ ∃ v : Int32, r = some (.int v) ∧ ((m'.1 187 16).toInt = 2)) 97 [(0, .ref (ad 187)), (3, .int x3), (4, .int x4)] [.int s0, .int s1, .ref (ad 189)] m) := by
  intro n
  induction n with
  | zero =>
    refine ⟨?_, ?_⟩ <;> intros <;> exfalso <;> omega
  | succ n ih =>
    refine ⟨?_, ?_⟩
    · intro m x1 x2 x3 s0 s1 w f j1 j2 j3 j4 j5 j6 j7 hn
      refine g_X12_pays_69 ly_189 ?_
      refine ⟨?_, ?_⟩
      · exact vpi (by omega) (by omega)
      · have w1 : WT (uI m 189 s1.toNatClampNeg (vp_nar .boolean s0)) := w.n rfl
        have f1 : Fx (RS [20, 22, 24, 26, 28, 29, 30, 31, 46, 49]) m0 (uI m 189 s1.toNatClampNeg (vp_nar .boolean s0)) := f.i rfl
        have r2 := w.at (a := 187) (k := 11) rfl
        refine (s_X12_pointsBehind w1 (by show (0 : Int) ≤ (x1).toInt; omega) (by show (x1).toInt ≤ (7 : Int); omega) (by show (0 : Int) ≤ (x2).toInt; omega) (by show (x2).toInt ≤ (50 : Int); omega) (by show 1 ≤ ((m.1 187 11)).toInt; omega)).to ?_
        rintro _ m1 ⟨w_m1, g3, v2, rfl⟩
        have f_m1 : Fx (RS [20, 22, 24, 26, 28, 29, 30, 31, 46, 49]) m0 m1 := f1.tr g3 (RS_sub rfl)
        have e4 : (m1.1 187 11).toInt = ((m.1 187 11)).toInt := congrArg _ (g3.at (a := 187) (k := 11) (by decide))
        have e5 : (m1.1 187 10).toInt = ((m.1 187 10)).toInt := congrArg _ (g3.at (a := 187) (k := 10) (by decide))
        have e6 : (m1.1 187 16).toInt = ((m.1 187 16)).toInt := congrArg _ (g3.at (a := 187) (k := 16) (by decide))
        have e7 : (m1.1 187 1).toInt = ((m.1 187 1)).toInt := congrArg _ (g3.at (a := 187) (k := 1) (by decide))
        have e8 : (m1.1 187 0).toInt = ((m.1 187 0)).toInt := congrArg _ (g3.at (a := 187) (k := 0) (by decide))
        refine ⟨v2, rfl, ?_⟩
        refine ⟨?_, ?_⟩
        · exact vpi (by omega) (by omega)
        · refine ⟨?_, ?_⟩
          · intro c9
            have k10 := y_ner (n := 0) rfl c9
            exact ih.2 _ _ _ _ _ w_m1 f_m1 (by show (0 : Int) ≤ (x1).toInt; omega) (by show (x1).toInt ≤ (7 : Int); omega) (by show 0 * (x3).toInt + 1 < _; omega)
          · intro c11
            have k12 := y_eqr (n := 0) rfl c11
            exact ih.2 _ _ _ _ _ w_m1 f_m1 (by show (0 : Int) ≤ (x1).toInt; omega) (by show (x1).toInt ≤ (7 : Int); omega) (by show 0 * (x3).toInt + 1 < _; omega)
    · intro m x3 x4 s0 s1 w f j1 j2 hn
      refine g_X12_pays_97 ly_189 ?_
      refine ⟨?_, ?_⟩
      · exact vpi (by omega) (by omega)
      · have w1 : WT (uI m 189 s1.toNatClampNeg (vp_nar .boolean s0)) := w.n rfl
        have f1 : Fx (RS [20, 22, 24, 26, 28, 29, 30, 31, 46, 49]) m0 (uI m 189 s1.toNatClampNeg (vp_nar .boolean s0)) := f.i rfl
        have w2 : WT (uI (uI m 189 s1.toNatClampNeg (vp_nar .boolean s0)) 187 16 (0 : Int32)) := w1.t rfl (by show (0 : Int) ≤ (0 : Int); omega) (by show (0 : Int) ≤ 16; omega)
        have f2 : Fx (RS [20, 22, 24, 26, 28, 29, 30, 31, 46, 49]) m0 (uI (uI m 189 s1.toNatClampNeg (vp_nar .boolean s0)) 187 16 (0 : Int32)) := f1.i rfl
        refine (s_X12_tell w2 (by show (0 : Int) ≤ 15; omega)).to ?_
        rintro _ m1 ⟨w_m1, g3, rfl, p4⟩
        have f_m1 : Fx (RS [20, 22, 24, 26, 28, 29, 30, 31, 46, 49]) m0 m1 := f2.tr g3 (RS_sub rfl)
        have p5 : (m1.1 187 16).toInt = (0 : Int) + 1 := p4
        clear p4
        have e6 : (m1.1 187 11).toInt = ((m.1 187 11)).toInt := congrArg _ (g3.at (a := 187) (k := 11) (by decide))
        have e7 : (m1.1 187 10).toInt = ((m.1 187 10)).toInt := congrArg _ (g3.at (a := 187) (k := 10) (by decide))
        have e8 : (m1.1 187 1).toInt = ((m.1 187 1)).toInt := congrArg _ (g3.at (a := 187) (k := 1) (by decide))
        have e9 : (m1.1 187 0).toInt = ((m.1 187 0)).toInt := congrArg _ (g3.at (a := 187) (k := 0) (by decide))
        refine ⟨rfl, ?_⟩
        have r10 := w_m1.at (a := 187) (k := 16) rfl
        refine (s_X12_tell w_m1 (by show ((m1.1 187 16)).toInt ≤ 15; omega)).to ?_
        rintro _ m2 ⟨w_m2, g11, rfl, p12⟩
        have f_m2 : Fx (RS [20, 22, 24, 26, 28, 29, 30, 31, 46, 49]) m0 m2 := f_m1.tr g11 (RS_sub rfl)
        have p13 : (m2.1 187 16).toInt = ((m1.1 187 16)).toInt + 1 := p12
        clear p12
        have e14 : (m2.1 187 11).toInt = ((m1.1 187 11)).toInt := congrArg _ (g11.at (a := 187) (k := 11) (by decide))
        have e15 : (m2.1 187 10).toInt = ((m1.1 187 10)).toInt := congrArg _ (g11.at (a := 187) (k := 10) (by decide))
        have e16 : (m2.1 187 1).toInt = ((m1.1 187 1)).toInt := congrArg _ (g11.at (a := 187) (k := 1) (by decide))
        have e17 : (m2.1 187 0).toInt = ((m1.1 187 0)).toInt := congrArg _ (g11.at (a := 187) (k := 0) (by decide))
        refine ⟨rfl, ?_⟩
        have r18 := w_m2.at (a := 187) (k := 16) rfl
        exact ⟨w_m2, f_m2, _, rfl, (by show ((m2.1 187 16)).toInt = 2; omega)⟩
