/-! SAFETY OF THE CLASS, BY PROGRAM (X11_sign .. X11_rounds) -/
set_option maxHeartbeats 4000000 in
theorem s_X11_sign {ad : Nat → Nat} {d : Nat} {m : Wm} {x1 : Int32} (w : WT m) : Ct ad μX11_sign (d + 1) [.ref (ad 0), .int x1] m (fun r m' => WT m' ∧ Fx (RS [0]) m m' ∧ ∃ v : Int32, r = some (.int v) ∧ ((v.toInt = -1 ∧ (m'.1 1 1).toInt = (m.1 1 1).toInt ∧ 76 < (m.1 1 1).toInt) ∨ (v.toInt = (m.1 1 1).toInt + 4 ∧ (m'.1 1 1).toInt = (m.1 1 1).toInt + 4 ∧ (m.1 1 1).toInt ≤ 76))) := by
  have f : Fx (RS [0]) m m := Fx.rf
  refine v_X11_sign  ?_
  refine (s_X10_add w).to ?_
  rintro _ m1 ⟨w_m1, g1, v2, rfl, p3, p4, p2⟩
  have f_m1 : Fx (RS [0]) m m1 := f.tr g1 (RS_sub rfl)
  have p5 : (v2.toInt = 0 ∧ (m1.1 1 1).toInt = ((m.1 1 1)).toInt ∧ 76 < ((m.1 1 1)).toInt) ∨ (v2.toInt = 1 ∧ (m1.1 1 1).toInt = ((m.1 1 1)).toInt + 4 ∧ ((m.1 1 1)).toInt ≤ 76) := p2
  clear p2
  refine ⟨v2, rfl, ?_⟩
  refine ⟨?_, ?_⟩
  · intro c6
    have k7 := y_eqr (n := 0) rfl c6
    have r8 := w_m1.at (a := 1) (k := 1) rfl
    exact ⟨w_m1, f_m1, _, rfl, (by show ((-1 : Int) = -1 ∧ ((m1.1 1 1)).toInt = (m.1 1 1).toInt ∧ 76 < (m.1 1 1).toInt) ∨ ((-1 : Int) = (m.1 1 1).toInt + 4 ∧ ((m1.1 1 1)).toInt = (m.1 1 1).toInt + 4 ∧ (m.1 1 1).toInt ≤ 76); omega)⟩
  · intro c9
    have k10 := y_ner (n := 0) rfl c9
    have r11 := w_m1.at (a := 1) (k := 1) rfl
    exact ⟨w_m1, f_m1, _, rfl, (by show (((m1.1 1 1)).toInt = -1 ∧ ((m1.1 1 1)).toInt = (m.1 1 1).toInt ∧ 76 < (m.1 1 1).toInt) ∨ (((m1.1 1 1)).toInt = (m.1 1 1).toInt + 4 ∧ ((m1.1 1 1)).toInt = (m.1 1 1).toInt + 4 ∧ (m.1 1 1).toInt ≤ 76); omega)⟩
set_option maxHeartbeats 4000000 in
theorem s_X11_end {ad : Nat → Nat} {d : Nat} {m : Wm} {x1 : Int32} (w : WT m) : Ct ad μX11_end (d + 1) [.ref (ad 0), .int x1] m (fun r m' => WT m' ∧ Fx (RS [0]) m m' ∧ ∃ v : Int32, r = some (.int v) ∧ (0 : Int) ≤ v.toInt ∧ v.toInt ≤ 1 ∧ ((v.toInt = 0 ∧ (m'.1 1 1).toInt = (m.1 1 1).toInt ∧ (x1.toInt < 0 ∨ (m.1 1 1).toInt < x1.toInt)) ∨ (v.toInt = 1 ∧ (m'.1 1 1).toInt = x1.toInt ∧ 0 ≤ x1.toInt ∧ x1.toInt ≤ (m.1 1 1).toInt))) := by
  have f : Fx (RS [0]) m m := Fx.rf
  refine v_X11_end  ?_
  refine (s_X10_cut w).to ?_
  rintro _ m1 ⟨w_m1, g1, v2, rfl, p3, p4, p2⟩
  have f_m1 : Fx (RS [0]) m m1 := f.tr g1 (RS_sub rfl)
  have p5 : (v2.toInt = 0 ∧ (m1.1 1 1).toInt = ((m.1 1 1)).toInt ∧ ((x1).toInt < 0 ∨ ((m.1 1 1)).toInt < (x1).toInt)) ∨ (v2.toInt = 1 ∧ (m1.1 1 1).toInt = (x1).toInt ∧ 0 ≤ (x1).toInt ∧ (x1).toInt ≤ ((m.1 1 1)).toInt) := p2
  clear p2
  refine ⟨v2, rfl, ?_⟩
  refine ⟨?_, ?_⟩
  · exact bz_of (by omega) (by omega)
  · have r6 := w_m1.at (a := 1) (k := 1) rfl
    exact ⟨w_m1, f_m1, _, rfl, (by show (0 : Int) ≤ (v2).toInt; omega), (by show (v2).toInt ≤ (1 : Int); omega), (by show ((v2).toInt = 0 ∧ ((m1.1 1 1)).toInt = (m.1 1 1).toInt ∧ (x1.toInt < 0 ∨ (m.1 1 1).toInt < x1.toInt)) ∨ ((v2).toInt = 1 ∧ ((m1.1 1 1)).toInt = x1.toInt ∧ 0 ≤ x1.toInt ∧ x1.toInt ≤ (m.1 1 1).toInt); omega)⟩
set_option maxHeartbeats 4000000 in
theorem l_X11_league {ad : Nat → Nat} {d : Nat} {m0 : Wm}  : ∀ n : Nat, (∀ (m : Wm) (x2 : Int32), WT m → Fx (RS [0, 3, 4, 7, 8, 13, 41, 42, 44, 53]) m0 m → (0 : Int) ≤ x2.toInt → x2.toInt ≤ (2 : Int) → ((m.1 1 1).toInt = 0) → 2 - x2.toInt < (n : Int) → AW ad E0 μX11_league (d + 5) (fun r m' => WT m' ∧ Fx (RS [0, 3, 4, 7, 8, 13, 41, 42, 44, 53]) m0 m' ∧ ∃ v : Int32, r = some (.int v) ∧ ((m'.1 1 1).toInt = 0)) 101 [(0, .ref (ad 0)), (2, .int x2)] [] m) := by
  intro n
  induction n with
  | zero =>
    intros
    exfalso
    omega
  | succ n ih =>
    intro m x2 w f j1 j2 j3 hn
    refine g_X11_league_101  ?_
    refine ⟨?_, ?_⟩
    · intro c1
      have k2 := y_lel (n := 2) rfl c1
      have r3 := w.at (a := 1) (k := 1) rfl
      exact ⟨w, f, _, rfl, (by show ((m.1 1 1)).toInt = 0; omega)⟩
    · intro c4
      have k5 := y_nlel (n := 2) rfl c4
      refine ⟨?_, ?_⟩
      · exact vpi (by omega) (by omega)
      · obtain ⟨r1, e6, q7⟩ := w.keep (x := x2) (by omega) (by omega)
        refine ⟨r1, e6, Ke_of q7, ?_⟩
        have w8 : WT (uI m r1 4 (0 : Int32)) := by rcases q7 with rfl | rfl <;> exact w.n rfl
        have f8 : Fx (RS [0, 3, 4, 7, 8, 13, 41, 42, 44, 53]) m0 (uI m r1 4 (0 : Int32)) := f.i (by rcases q7 with rfl | rfl <;> rfl)
        have t9 := ti_addc (x := x2) (y := (1 : Int32)) (c := 1) rfl (by omega)
        have r10 := w.at (a := 1) (k := 1) rfl
        have e11 : (((uI m r1 4 (0 : Int32)).1 1 1)).toInt = ((m.1 1 1)).toInt := congrArg _ (by rcases q7 with rfl | rfl <;> rfl)
        have r12 := w8.at (a := 1) (k := 1) rfl
        exact ih _ _ w8 f8 (by show (0 : Int) ≤ ((x2 + (1 : Int32))).toInt; omega) (by show ((x2 + (1 : Int32))).toInt ≤ (2 : Int); omega) (by show (((uI m r1 4 (0 : Int32)).1 1 1)).toInt = 0; omega) (by show 2 - ((x2 + (1 : Int32))).toInt < _; omega)
set_option maxHeartbeats 4000000 in
theorem s_X11_league {ad : Nat → Nat} {d : Nat} {m : Wm} (w : WT m) : Ct ad μX11_league (d + 5) [.ref (ad 0)] m (fun r m' => WT m' ∧ Fx (RS [0, 3, 4, 7, 8, 13, 41, 42, 44, 53]) m m' ∧ ∃ v : Int32, r = some (.int v) ∧ ((m'.1 1 1).toInt = 0)) := by
  have f : Fx (RS [0, 3, 4, 7, 8, 13, 41, 42, 44, 53]) m m := Fx.rf
  refine v_X11_league  ?_
  refine ⟨?_, ?_⟩
  · intro c1
    have r2 := w.at (a := 1) (k := 1) rfl
    have k3 := y_ner (n := 0) rfl c1
    refine (s_X4_read w).to ?_
    rintro _ m1 ⟨w_m1, g4, v2, rfl⟩
    have f_m1 : Fx (RS [0, 3, 4, 7, 8, 13, 41, 42, 44, 53]) m m1 := f.tr g4 (RS_sub rfl)
    have e5 : (m1.1 1 1).toInt = ((m.1 1 1)).toInt := congrArg _ (g4.at (a := 1) (k := 1) (by decide))
    refine ⟨v2, rfl, ?_⟩
    refine ⟨?_, ?_⟩
    · intro c6
      have k7 := y_eqr (n := -1) rfl c6
      have w8 : WT (uI m1 1 1 (0 : Int32)) := w_m1.t rfl (by show (0 : Int) ≤ (0 : Int); omega) (by show (0 : Int) ≤ 80; omega)
      have f8 : Fx (RS [0, 3, 4, 7, 8, 13, 41, 42, 44, 53]) m (uI m1 1 1 (0 : Int32)) := f_m1.i rfl
      refine (s_X4_enter w8).to ?_
      rintro _ m3 ⟨w_m3, g9, rfl⟩
      have f_m3 : Fx (RS [0, 3, 4, 7, 8, 13, 41, 42, 44, 53]) m m3 := f8.tr g9 (RS_sub rfl)
      have e10 : (m3.1 1 1).toInt = (0 : Int) := congrArg _ (g9.at (a := 1) (k := 1) (by decide))
      refine ⟨rfl, ?_⟩
      refine ⟨?_, ?_⟩
      · intro c11
        have k12 := y_eqr (n := 0) rfl c11
        have w13 : WT (uI m3 31 1 (0 : Int32)) := w_m3.t rfl (by show (0 : Int) ≤ (0 : Int); omega) (by show (0 : Int) ≤ 20; omega)
        have f13 : Fx (RS [0, 3, 4, 7, 8, 13, 41, 42, 44, 53]) m (uI m3 31 1 (0 : Int32)) := f_m3.i rfl
        have r14 := w_m3.at (a := 1) (k := 1) rfl
        exact (l_X11_league (m0 := m) 1000000) _ _ w13 f13 (by show (0 : Int) ≤ (0 : Int); omega) (by show (0 : Int) ≤ (2 : Int); omega) (by show ((m3.1 1 1)).toInt = 0; omega) (by show 2 - (0 : Int) < _; omega)
      · intro c15
        have k16 := y_ner (n := 0) rfl c15
        obtain ⟨r4, e17, q18⟩ := w_m3.r09
        refine ⟨r4, e17, Pl_of q18, ?_⟩
        refine (s_X3_clear w_m3 q18).to ?_
        rintro _ m5 ⟨w_m5, g19, rfl, p20⟩
        have f_m5 : Fx (RS [0, 3, 4, 7, 8, 13, 41, 42, 44, 53]) m m5 := f_m3.tr g19 (RS_sub rfl)
        have p21 : (m5.1 r4 5).toInt = 0 := p20
        clear p20
        have e22 : (m5.1 1 1).toInt = ((m3.1 1 1)).toInt := congrArg _ (g19.at (a := 1) (k := 1) (by decide))
        refine ⟨rfl, ?_⟩
        have w23 : WT (uI m5 0 11 (0 : Int32)) := w_m5.n rfl
        have f23 : Fx (RS [0, 3, 4, 7, 8, 13, 41, 42, 44, 53]) m (uI m5 0 11 (0 : Int32)) := f_m5.i rfl
        have w24 : WT (uI (uI m5 0 11 (0 : Int32)) 0 15 (0 : Int32)) := w23.t rfl (by show (0 : Int) ≤ (0 : Int); omega) (by show (0 : Int) ≤ 12; omega)
        have f24 : Fx (RS [0, 3, 4, 7, 8, 13, 41, 42, 44, 53]) m (uI (uI m5 0 11 (0 : Int32)) 0 15 (0 : Int32)) := f23.i rfl
        have w25 : WT (uI (uI (uI m5 0 11 (0 : Int32)) 0 15 (0 : Int32)) 31 1 (0 : Int32)) := w24.t rfl (by show (0 : Int) ≤ (0 : Int); omega) (by show (0 : Int) ≤ 20; omega)
        have f25 : Fx (RS [0, 3, 4, 7, 8, 13, 41, 42, 44, 53]) m (uI (uI (uI m5 0 11 (0 : Int32)) 0 15 (0 : Int32)) 31 1 (0 : Int32)) := f24.i rfl
        have r26 := w_m5.at (a := 1) (k := 1) rfl
        exact (l_X11_league (m0 := m) 1000000) _ _ w25 f25 (by show (0 : Int) ≤ (0 : Int); omega) (by show (0 : Int) ≤ (2 : Int); omega) (by show ((m5.1 1 1)).toInt = 0; omega) (by show 2 - (0 : Int) < _; omega)
    · intro c27
      have k28 := y_ner (n := -1) rfl c27
      have w29 : WT (uI m1 1 1 (0 : Int32)) := w_m1.t rfl (by show (0 : Int) ≤ (0 : Int); omega) (by show (0 : Int) ≤ 80; omega)
      have f29 : Fx (RS [0, 3, 4, 7, 8, 13, 41, 42, 44, 53]) m (uI m1 1 1 (0 : Int32)) := f_m1.i rfl
      exact ⟨w29, f29, _, rfl, (by show (0 : Int) = 0; omega)⟩
  · intro c30
    have r31 := w.at (a := 1) (k := 1) rfl
    have k32 := y_eqr (n := 0) rfl c30
    exact ⟨w, f, _, rfl, (by show ((m.1 1 1)).toInt = 0; omega)⟩
set_option maxHeartbeats 4000000 in
theorem s_X11_rule {ad : Nat → Nat} {d : Nat} {m : Wm} (w : WT m) : Ct ad μX11_rule (d + 5) [.ref (ad 0)] m (fun r m' => WT m' ∧ Fx (RS [0, 1]) m m' ∧ ∃ v : Int32, r = some (.int v) ∧ ((m'.1 1 1).toInt = 0)) := by
  have f : Fx (RS [0, 1]) m m := Fx.rf
  refine v_X11_rule  ?_
  obtain ⟨r1, e1, q2⟩ := w.r32
  refine ⟨r1, e1, Ru_of q2, ?_⟩
  refine (s_X5_compile w q2).to ?_
  rintro _ m2 ⟨w_m2, g3, v3, rfl⟩
  have f_m2 : Fx (RS [0, 1]) m m2 := f.tr g3 (RS_sub rfl)
  refine ⟨v3, rfl, ?_⟩
  refine ⟨?_, ?_⟩
  · intro c4
    have k5 := y_eqr (n := -1) rfl c4
    obtain ⟨r4, e6, q7⟩ := w_m2.r31
    refine ⟨r4, e6, Ru_of q7, ?_⟩
    obtain ⟨r5, e8, q9⟩ := w_m2.r32
    refine ⟨r5, e8, Ru_of q9, ?_⟩
    have w10 : WT (uI m2 1 1 (0 : Int32)) := w_m2.t rfl (by show (0 : Int) ≤ (0 : Int); omega) (by show (0 : Int) ≤ 80; omega)
    have f10 : Fx (RS [0, 1]) m (uI m2 1 1 (0 : Int32)) := f_m2.i rfl
    have w11 : WT (uR (uI m2 1 1 (0 : Int32)) 3 1 (some r5)) := w10.rR (by decide) q9
    have f11 : Fx (RS [0, 1]) m (uR (uI m2 1 1 (0 : Int32)) 3 1 (some r5)) := f10.r rfl
    have w12 : WT (uR (uR (uI m2 1 1 (0 : Int32)) 3 1 (some r5)) 3 2 (some r4)) := w11.rR (by decide) q7
    have f12 : Fx (RS [0, 1]) m (uR (uR (uI m2 1 1 (0 : Int32)) 3 1 (some r5)) 3 2 (some r4)) := f11.r rfl
    exact ⟨w12, f12, _, rfl, (by show (0 : Int) = 0; omega)⟩
  · intro c13
    have k14 := y_ner (n := -1) rfl c13
    have w15 : WT (uI m2 1 1 (0 : Int32)) := w_m2.t rfl (by show (0 : Int) ≤ (0 : Int); omega) (by show (0 : Int) ≤ 80; omega)
    have f15 : Fx (RS [0, 1]) m (uI m2 1 1 (0 : Int32)) := f_m2.i rfl
    exact ⟨w15, f15, _, rfl, (by show (0 : Int) = 0; omega)⟩
set_option maxHeartbeats 4000000 in
theorem s_X11_plan {ad : Nat → Nat} {d : Nat} {m : Wm} (w : WT m) : Ct ad μX11_plan (d + 4) [.ref (ad 0)] m (fun r m' => WT m' ∧ Fx (RS [0, 7, 44, 54]) m m' ∧ ∃ v : Int32, r = some (.int v) ∧ ((m'.1 1 1).toInt = 0)) := by
  have f : Fx (RS [0, 7, 44, 54]) m m := Fx.rf
  refine v_X11_plan  ?_
  obtain ⟨r1, e1, q2⟩ := w.r010
  refine ⟨r1, e1, Pl_of q2, ?_⟩
  have r3 := w.at (a := 3) (k := 3) rfl
  refine (s_X3_compile w q2 (by show (0 : Int) ≤ ((m.1 3 3)).toInt; omega) (by show ((m.1 3 3)).toInt ≤ (8 : Int); omega)).to ?_
  rintro _ m2 ⟨w_m2, g4, v3, rfl⟩
  have f_m2 : Fx (RS [0, 7, 44, 54]) m m2 := f.tr g4 (RS_sub rfl)
  refine ⟨v3, rfl, ?_⟩
  refine ⟨?_, ?_⟩
  · intro c5
    have k6 := y_eqr (n := -1) rfl c5
    obtain ⟨r4, e7, q8⟩ := w_m2.r09
    refine ⟨r4, e7, Pl_of q8, ?_⟩
    obtain ⟨r5, e9, q10⟩ := w_m2.r010
    refine ⟨r5, e9, Pl_of q10, ?_⟩
    have w11 : WT (uI m2 1 1 (0 : Int32)) := w_m2.t rfl (by show (0 : Int) ≤ (0 : Int); omega) (by show (0 : Int) ≤ 80; omega)
    have f11 : Fx (RS [0, 7, 44, 54]) m (uI m2 1 1 (0 : Int32)) := f_m2.i rfl
    have w12 : WT (uR (uI m2 1 1 (0 : Int32)) 0 9 (some r5)) := w11.rP (by decide) q10
    have f12 : Fx (RS [0, 7, 44, 54]) m (uR (uI m2 1 1 (0 : Int32)) 0 9 (some r5)) := f11.r rfl
    refine ⟨r5, rfl, Pl_of q10, ?_⟩
    have w15 : WT (uR (uR (uI m2 1 1 (0 : Int32)) 0 9 (some r5)) 0 10 (some r4)) := w12.rP (by decide) q8
    have f15 : Fx (RS [0, 7, 44, 54]) m (uR (uR (uI m2 1 1 (0 : Int32)) 0 9 (some r5)) 0 10 (some r4)) := f12.r rfl
    have w16 : WT (uI (uR (uR (uI m2 1 1 (0 : Int32)) 0 9 (some r5)) 0 10 (some r4)) 0 11 (0 : Int32)) := w15.n rfl
    have f16 : Fx (RS [0, 7, 44, 54]) m (uI (uR (uR (uI m2 1 1 (0 : Int32)) 0 9 (some r5)) 0 10 (some r4)) 0 11 (0 : Int32)) := f15.i rfl
    have r17 := w16.pl (k := 5) q10 rfl rfl
    exact ⟨w16, f16, _, rfl, (by show (0 : Int) = 0; omega)⟩
  · intro c18
    have k19 := y_ner (n := -1) rfl c18
    have w20 : WT (uI m2 1 1 (0 : Int32)) := w_m2.t rfl (by show (0 : Int) ≤ (0 : Int); omega) (by show (0 : Int) ≤ 80; omega)
    have f20 : Fx (RS [0, 7, 44, 54]) m (uI m2 1 1 (0 : Int32)) := f_m2.i rfl
    exact ⟨w20, f20, _, rfl, (by show (0 : Int) = 0; omega)⟩
set_option maxHeartbeats 4000000 in
theorem s_X11_skill {ad : Nat → Nat} {d : Nat} {m : Wm} {x1 x2 : Int32} (w : WT m) : Ct ad μX11_skill (d + 1) [.ref (ad 0), .int x1, .int x2] m (fun r m' => WT m' ∧ Fx (RS []) m m' ∧ ∃ v : Int32, r = some (.int v)) := by
  have f : Fx (RS []) m m := Fx.rf
  refine v_X11_skill  ?_
  refine (s_X1_has w).to ?_
  rintro _ m1 ⟨w_m1, g1, v2, rfl, p3, p4, p2⟩
  have f_m1 : Fx (RS []) m m1 := f.tr g1 (RS_sub rfl)
  have p5 : (v2.toInt = 0 ∧ ((x1).toInt < 0 ∨ ((m.1 3 3)).toInt ≤ (x1).toInt)) ∨ (v2.toInt = 1 ∧ 0 ≤ (x1).toInt ∧ (x1).toInt < ((m.1 3 3)).toInt ∧ (x1).toInt ≤ 7) := p2
  clear p2
  refine ⟨v2, rfl, ?_⟩
  refine ⟨?_, ?_⟩
  · intro c6
    have k7 := y_eqr (n := 0) rfl c6
    exact ⟨w_m1, f_m1, _, rfl⟩
  · intro c8
    have k9 := y_ner (n := 0) rfl c8
    refine (s_X1_knows w_m1).to ?_
    rintro _ m3 ⟨w_m3, g10, v4, rfl, p11, p12⟩
    have f_m3 : Fx (RS []) m m3 := f_m1.tr g10 (RS_sub rfl)
    refine ⟨v4, rfl, ?_⟩
    refine ⟨?_, ?_⟩
    · intro c13
      have k14 := y_eqr (n := 0) rfl c13
      exact ⟨w_m3, f_m3, _, rfl⟩
    · intro c15
      have k16 := y_ner (n := 0) rfl c15
      refine (s_X8_skillOf w_m3 SS_21).to ?_
      rintro _ m5 ⟨w_m5, g17, v6, rfl⟩
      have f_m5 : Fx (RS []) m m5 := f_m3.tr g17 (RS_sub rfl)
      refine ⟨v6, rfl, ?_⟩
      exact ⟨w_m5, f_m5, _, rfl⟩
set_option maxHeartbeats 4000000 in
theorem s_X11_law {ad : Nat → Nat} {d : Nat} {m : Wm} {x1 x2 : Int32} (w : WT m) : Ct ad μX11_law (d + 1) [.ref (ad 0), .int x1, .int x2] m (fun r m' => WT m' ∧ Fx (RS [43]) m m' ∧ ∃ v : Int32, r = some (.int v)) := by
  have f : Fx (RS [43]) m m := Fx.rf
  refine v_X11_law  ?_
  refine (s_X1_allows w).to ?_
  rintro _ m1 ⟨w_m1, g1, v2, rfl, p3, p4, p2⟩
  have f_m1 : Fx (RS [43]) m m1 := f.tr g1 (RS_sub rfl)
  have p5 : v2.toInt = 0 ∨ (0 ≤ (x1).toInt ∧ (x1).toInt ≤ 4) := p2
  clear p2
  refine ⟨v2, rfl, ?_⟩
  refine ⟨?_, ?_⟩
  · intro c6
    have k7 := y_ner (n := 0) rfl c6
    refine ⟨?_, ?_⟩
    · exact vpi (by omega) (by omega)
    · refine ⟨?_, ?_⟩
      · exact vpi (by omega) (by omega)
      · have w8 : WT (uI m1 4 x1.toNatClampNeg x2) := w_m1.n rfl
        have f8 : Fx (RS [43]) m (uI m1 4 x1.toNatClampNeg x2) := f_m1.i rfl
        exact ⟨w8, f8, _, rfl⟩
  · intro c9
    have k10 := y_eqr (n := 0) rfl c9
    exact ⟨w_m1, f_m1, _, rfl⟩
set_option maxHeartbeats 4000000 in
theorem s_X11_entry {ad : Nat → Nat} {d : Nat} {m : Wm} {x0 x1 : Int32} (w : WT m) : Ct ad μX11_entry d [.int x0, .int x1] m (fun r m' => WT m' ∧ Fx (RS []) m m' ∧ ∃ v : Int32, r = some (.int v)) := by
  have f : Fx (RS []) m m := Fx.rf
  refine v_X11_entry  ?_
  refine ⟨?_, ?_⟩
  · intro c1
    have k2 := y_ner (n := 0) rfl c1
    refine ⟨?_, ?_⟩
    · intro c3
      have k4 := y_ner (n := 1) rfl c3
      exact ⟨w, f, _, rfl⟩
    · intro c5
      have k6 := y_eqr (n := 1) rfl c5
      exact ⟨w, f, _, rfl⟩
  · intro c7
    have k8 := y_eqr (n := 0) rfl c7
    exact ⟨w, f, _, rfl⟩
set_option maxHeartbeats 4000000 in
theorem l_X11_sheet {ad : Nat → Nat} {d : Nat} {m0 : Wm}  : ∀ n : Nat, (∀ (m : Wm) (x1 x2 x3 x4 x5 s0 : Int32), WT m → Fx (RS [4, 53]) m0 m → 0 * x1.toInt + 1000 < (n : Int) → AW ad E0 μX11_sheet (d + 1) (fun r m' => WT m' ∧ Fx (RS [4, 53]) m0 m' ∧ ∃ v : Int32, r = some (.int v)) 38 [(0, .ref (ad 0)), (1, .int x1), (2, .int x2), (3, .int x3), (4, .int x4), (5, .int x5)] [.int s0] m) ∧ (∀ (m : Wm) (x1 x2 x3 x4 x5 x6 x7 x8 : Int32), WT m → Fx (RS [4, 53]) m0 m → (0 : Int) ≤ x8.toInt → x8.toInt ≤ (8 : Int) → (8 - x8.toInt) * 2 + 1 < (n : Int) → AW ad E0 μX11_sheet (d + 1) (fun r m' => WT m' ∧ Fx (RS [4, 53]) m0 m' ∧ ∃ v : Int32, r = some (.int v)) 58 [(0, .ref (ad 0)), (1, .int x1), (2, .int x2), (3, .int x3), (4, .int x4), (5, .int x5), (6, .int x6), (7, .int x7), (8, .int x8)] [] m) ∧ (∀ (m : Wm) (x1 x2 x3 x4 x5 x6 x7 x8 s0 : Int32), WT m → Fx (RS [4, 53]) m0 m → (0 : Int) ≤ x8.toInt → x8.toInt ≤ (7 : Int) → (8 - x8.toInt) * 2 < (n : Int) → AW ad E0 μX11_sheet (d + 1) (fun r m' => WT m' ∧ Fx (RS [4, 53]) m0 m' ∧ ∃ v : Int32, r = some (.int v)) 103 [(0, .ref (ad 0)), (1, .int x1), (2, .int x2), (3, .int x3), (4, .int x4), (5, .int x5), (6, .int x6), (7, .int x7), (8, .int x8)] [.int s0] m) := by
  intro n
  induction n with
  | zero =>
    refine ⟨?_, ?_, ?_⟩ <;> intros <;> exfalso <;> omega
  | succ n ih =>
    refine ⟨?_, ?_, ?_⟩
    · intro m x1 x2 x3 x4 x5 s0 w f  hn
      refine g_X11_sheet_38  ?_
      refine ⟨?_, ?_⟩
      · intro c1
        have k2 := y_lel (n := 0) rfl c1
        exact ih.2.1 _ _ _ _ _ _ _ _ _ w f (by show (0 : Int) ≤ (0 : Int); omega) (by show (0 : Int) ≤ (8 : Int); omega) (by show (8 - (0 : Int)) * 2 + 1 < _; omega)
      · intro c3
        have k4 := y_nlel (n := 0) rfl c3
        refine ⟨?_, ?_⟩
        · intro c5
          have k6 := y_ner (n := 0) rfl c5
          exact ih.2.1 _ _ _ _ _ _ _ _ _ w f (by show (0 : Int) ≤ (0 : Int); omega) (by show (0 : Int) ≤ (8 : Int); omega) (by show (8 - (0 : Int)) * 2 + 1 < _; omega)
        · intro c7
          have k8 := y_eqr (n := 0) rfl c7
          exact ⟨w, f, _, rfl⟩
    · intro m x1 x2 x3 x4 x5 x6 x7 x8 w f j1 j2 hn
      refine g_X11_sheet_58  ?_
      refine ⟨?_, ?_⟩
      · intro c1
        have r2 := w.at (a := 3) (k := 3) rfl
        have k3 := z_le c1
        refine ⟨?_, ?_⟩
        · intro c4
          have k5 := y_eqr (n := 0) rfl c4
          have w6 : WT (uI m 31 1 (0 : Int32)) := w.t rfl (by show (0 : Int) ≤ (0 : Int); omega) (by show (0 : Int) ≤ 20; omega)
          have f6 : Fx (RS [4, 53]) m0 (uI m 31 1 (0 : Int32)) := f.i rfl
          exact ⟨w6, f6, _, rfl⟩
        · intro c7
          have k8 := y_ner (n := 0) rfl c7
          have w9 : WT (uI m 31 1 (0 : Int32)) := w.t rfl (by show (0 : Int) ≤ (0 : Int); omega) (by show (0 : Int) ≤ 20; omega)
          have f9 : Fx (RS [4, 53]) m0 (uI m 31 1 (0 : Int32)) := f.i rfl
          exact ⟨w9, f9, _, rfl⟩
      · intro c10
        have r11 := w.at (a := 3) (k := 3) rfl
        have k12 := z_nle c10
        refine ⟨?_, ?_⟩
        · intro c13
          have k14 := y_ner (n := 0) rfl c13
          exact ih.2.2 _ _ _ _ _ _ _ _ _ _ w f (by show (0 : Int) ≤ (x8).toInt; omega) (by show (x8).toInt ≤ (7 : Int); omega) (by show (8 - (x8).toInt) * 2 < _; omega)
        · intro c15
          have k16 := y_eqr (n := 0) rfl c15
          refine ⟨?_, ?_⟩
          · intro c17
            have k18 := z_lt c17
            refine (s_X11_entry w).to ?_
            rintro _ m1 ⟨w_m1, g19, v2, rfl⟩
            have f_m1 : Fx (RS [4, 53]) m0 m1 := f.tr g19 (RS_sub rfl)
            refine ⟨v2, rfl, ?_⟩
            refine (s_X11_clamp w_m1).to ?_
            rintro _ m3 ⟨w_m3, g20, v4, rfl, p21⟩
            have f_m3 : Fx (RS [4, 53]) m0 m3 := f_m1.tr g20 (RS_sub rfl)
            have p22 : (7 : Int) < (0 : Int) ∨ ((0 : Int) ≤ v4.toInt ∧ v4.toInt ≤ (7 : Int)) := p21
            clear p21
            refine ⟨v4, rfl, ?_⟩
            exact ih.2.2 _ _ _ _ _ _ _ _ _ _ w_m3 f_m3 (by show (0 : Int) ≤ (x8).toInt; omega) (by show (x8).toInt ≤ (7 : Int); omega) (by show (8 - (x8).toInt) * 2 < _; omega)
          · intro c23
            have k24 := z_nlt c23
            exact ih.2.2 _ _ _ _ _ _ _ _ _ _ w f (by show (0 : Int) ≤ (x8).toInt; omega) (by show (x8).toInt ≤ (7 : Int); omega) (by show (8 - (x8).toInt) * 2 < _; omega)
    · intro m x1 x2 x3 x4 x5 x6 x7 x8 s0 w f j1 j2 hn
      refine g_X11_sheet_103  ?_
      refine (s_X8_putSkill w SS_21).to ?_
      rintro _ m1 ⟨w_m1, g1, rfl⟩
      have f_m1 : Fx (RS [4, 53]) m0 m1 := f.tr g1 (RS_sub rfl)
      refine ⟨rfl, ?_⟩
      have t2 := ti_addc (x := x8) (y := (1 : Int32)) (c := 1) rfl (by omega)
      exact ih.2.1 _ _ _ _ _ _ _ _ _ w_m1 f_m1 (by show (0 : Int) ≤ ((x8 + (1 : Int32))).toInt; omega) (by show ((x8 + (1 : Int32))).toInt ≤ (8 : Int); omega) (by show (8 - ((x8 + (1 : Int32))).toInt) * 2 + 1 < _; omega)
set_option maxHeartbeats 4000000 in
theorem s_X11_sheet {ad : Nat → Nat} {d : Nat} {m : Wm} {x1 x2 x3 x4 x5 : Int32} (w : WT m) : Ct ad μX11_sheet (d + 1) [.ref (ad 0), .int x1, .int x2, .int x3, .int x4, .int x5] m (fun r m' => WT m' ∧ Fx (RS [4, 53]) m m' ∧ ∃ v : Int32, r = some (.int v)) := by
  have f : Fx (RS [4, 53]) m m := Fx.rf
  refine v_X11_sheet  ?_
  refine (s_X1_knows w).to ?_
  rintro _ m1 ⟨w_m1, g1, v2, rfl, p2, p3⟩
  have f_m1 : Fx (RS [4, 53]) m m1 := f.tr g1 (RS_sub rfl)
  refine ⟨v2, rfl, ?_⟩
  refine ⟨?_, ?_⟩
  · intro c4
    have k5 := y_eqr (n := 0) rfl c4
    exact ⟨w_m1, f_m1, _, rfl⟩
  · intro c6
    have k7 := y_ner (n := 0) rfl c6
    refine ⟨?_, ?_⟩
    · intro c8
      have k9 := y_ltr (n := 0) rfl c8
      exact ⟨w_m1, f_m1, _, rfl⟩
    · intro c10
      have k11 := y_nltr (n := 0) rfl c10
      refine ⟨?_, ?_⟩
      · intro c12
        have k13 := y_ltl (n := 3) rfl c12
        exact ⟨w_m1, f_m1, _, rfl⟩
      · intro c14
        have k15 := y_nltl (n := 3) rfl c14
        refine ⟨?_, ?_⟩
        · intro c16
          have k17 := y_ler (n := 8) rfl c16
          refine ⟨?_, ?_⟩
          · intro c18
            have k19 := y_ner (n := 3) rfl c18
            exact (l_X11_sheet (m0 := m) 1000000).1 _ _ _ _ _ _ _ w_m1 f_m1 (by show 0 * (x1).toInt + 1000 < _; omega)
          · intro c20
            have k21 := y_eqr (n := 3) rfl c20
            exact (l_X11_sheet (m0 := m) 1000000).1 _ _ _ _ _ _ _ w_m1 f_m1 (by show 0 * (x1).toInt + 1000 < _; omega)
        · intro c22
          have k23 := y_nler (n := 8) rfl c22
          exact ⟨w_m1, f_m1, _, rfl⟩
set_option maxHeartbeats 4000000 in
theorem s_X11_ill {ad : Nat → Nat} {d : Nat} {m : Wm} {x1 x2 : Int32} (w : WT m) : Ct ad μX11_ill (d + 1) [.ref (ad 0), .int x1, .int x2] m (fun r m' => WT m' ∧ Fx (RS [42]) m m' ∧ ∃ v : Int32, r = some (.int v) ∧ (0 : Int) ≤ v.toInt ∧ v.toInt ≤ 1 ∧ ((v.toInt = 0 ∧ (x1.toInt < 0 ∨ (m.1 3 3).toInt ≤ x1.toInt)) ∨ (v.toInt = 1 ∧ 0 ≤ x1.toInt ∧ x1.toInt < (m.1 3 3).toInt))) := by
  have f : Fx (RS [42]) m m := Fx.rf
  refine v_X11_ill  ?_
  refine (s_X1_has w).to ?_
  rintro _ m1 ⟨w_m1, g1, v2, rfl, p3, p4, p2⟩
  have f_m1 : Fx (RS [42]) m m1 := f.tr g1 (RS_sub rfl)
  have p5 : (v2.toInt = 0 ∧ ((x1).toInt < 0 ∨ ((m.1 3 3)).toInt ≤ (x1).toInt)) ∨ (v2.toInt = 1 ∧ 0 ≤ (x1).toInt ∧ (x1).toInt < ((m.1 3 3)).toInt ∧ (x1).toInt ≤ 7) := p2
  clear p2
  have e6 : (m1.1 3 3).toInt = ((m.1 3 3)).toInt := congrArg _ (g1.at (a := 3) (k := 3) (by decide))
  refine ⟨v2, rfl, ?_⟩
  refine ⟨?_, ?_⟩
  · intro c7
    have k8 := y_ner (n := 0) rfl c7
    refine ⟨?_, ?_⟩
    · intro c9
      have k10 := y_eqr (n := 0) rfl c9
      have w11 : WT (uI m1 3 5 ((m1.1 3 5) &&& (((1 : Int32) <<< (x1 &&& 31)) ^^^ (-1 : Int32)))) := w_m1.n rfl
      have f11 : Fx (RS [42]) m (uI m1 3 5 ((m1.1 3 5) &&& (((1 : Int32) <<< (x1 &&& 31)) ^^^ (-1 : Int32)))) := f_m1.i rfl
      exact ⟨w11, f11, _, rfl, (by show (0 : Int) ≤ (1 : Int); omega), (by show (1 : Int) ≤ (1 : Int); omega), (by show ((1 : Int) = 0 ∧ (x1.toInt < 0 ∨ (m.1 3 3).toInt ≤ x1.toInt)) ∨ ((1 : Int) = 1 ∧ 0 ≤ x1.toInt ∧ x1.toInt < (m.1 3 3).toInt); omega)⟩
    · intro c12
      have k13 := y_ner (n := 0) rfl c12
      have w14 : WT (uI m1 3 5 ((m1.1 3 5) ||| ((1 : Int32) <<< (x1 &&& 31)))) := w_m1.n rfl
      have f14 : Fx (RS [42]) m (uI m1 3 5 ((m1.1 3 5) ||| ((1 : Int32) <<< (x1 &&& 31)))) := f_m1.i rfl
      exact ⟨w14, f14, _, rfl, (by show (0 : Int) ≤ (1 : Int); omega), (by show (1 : Int) ≤ (1 : Int); omega), (by show ((1 : Int) = 0 ∧ (x1.toInt < 0 ∨ (m.1 3 3).toInt ≤ x1.toInt)) ∨ ((1 : Int) = 1 ∧ 0 ≤ x1.toInt ∧ x1.toInt < (m.1 3 3).toInt); omega)⟩
  · intro c15
    have k16 := y_eqr (n := 0) rfl c15
    exact ⟨w_m1, f_m1, _, rfl, (by show (0 : Int) ≤ (0 : Int); omega), (by show (0 : Int) ≤ (1 : Int); omega), (by show ((0 : Int) = 0 ∧ (x1.toInt < 0 ∨ (m.1 3 3).toInt ≤ x1.toInt)) ∨ ((0 : Int) = 1 ∧ 0 ≤ x1.toInt ∧ x1.toInt < (m.1 3 3).toInt); omega)⟩
set_option maxHeartbeats 4000000 in
theorem l_X11_swap {ad : Nat → Nat} {d : Nat} {m0 : Wm}  : ∀ n : Nat, (∀ (m : Wm) (x1 x2 x3 : Int32), WT m → Fx (RS [4, 53]) m0 m → (0 : Int) ≤ x3.toInt → x3.toInt ≤ (4 : Int) → (0 ≤ x1.toInt ∧ x1.toInt < (m0.1 3 3).toInt ∧ 0 ≤ x2.toInt ∧ x2.toInt < (m0.1 3 3).toInt ∧ x1.toInt ≠ x2.toInt) → 4 - x3.toInt < (n : Int) → AW ad E0 μX11_swap (d + 2) (fun r m' => WT m' ∧ Fx (RS [4, 53]) m0 m' ∧ ∃ v : Int32, r = some (.int v) ∧ (0 : Int) ≤ v.toInt ∧ v.toInt ≤ 1 ∧ ((v.toInt = 0 ∧ (x1.toInt < 0 ∨ (m0.1 3 3).toInt ≤ x1.toInt ∨ x2.toInt < 0 ∨ (m0.1 3 3).toInt ≤ x2.toInt ∨ x1.toInt = x2.toInt)) ∨ (v.toInt = 1 ∧ 0 ≤ x1.toInt ∧ x1.toInt < (m0.1 3 3).toInt ∧ 0 ≤ x2.toInt ∧ x2.toInt < (m0.1 3 3).toInt ∧ x1.toInt ≠ x2.toInt))) 16 [(0, .ref (ad 0)), (1, .int x1), (2, .int x2), (3, .int x3)] [] m) := by
  intro n
  induction n with
  | zero =>
    intros
    exfalso
    omega
  | succ n ih =>
    intro m x1 x2 x3 w f j1 j2 j3 hn
    refine g_X11_swap_16  ?_
    refine ⟨?_, ?_⟩
    · intro c1
      have k2 := y_lel (n := 4) rfl c1
      have w3 : WT (uI m 31 1 (0 : Int32)) := w.t rfl (by show (0 : Int) ≤ (0 : Int); omega) (by show (0 : Int) ≤ 20; omega)
      have f3 : Fx (RS [4, 53]) m0 (uI m 31 1 (0 : Int32)) := f.i rfl
      exact ⟨w3, f3, _, rfl, (by show (0 : Int) ≤ (1 : Int); omega), (by show (1 : Int) ≤ (1 : Int); omega), (by show ((1 : Int) = 0 ∧ (x1.toInt < 0 ∨ (m0.1 3 3).toInt ≤ x1.toInt ∨ x2.toInt < 0 ∨ (m0.1 3 3).toInt ≤ x2.toInt ∨ x1.toInt = x2.toInt)) ∨ ((1 : Int) = 1 ∧ 0 ≤ x1.toInt ∧ x1.toInt < (m0.1 3 3).toInt ∧ 0 ≤ x2.toInt ∧ x2.toInt < (m0.1 3 3).toInt ∧ x1.toInt ≠ x2.toInt); omega)⟩
    · intro c4
      have k5 := y_nlel (n := 4) rfl c4
      refine (s_X8_skillOf w SS_21).to ?_
      rintro _ m1 ⟨w_m1, g6, v2, rfl⟩
      have f_m1 : Fx (RS [4, 53]) m0 m1 := f.tr g6 (RS_sub rfl)
      have e7 : (m1.1 3 3).toInt = ((m.1 3 3)).toInt := congrArg _ (g6.at (a := 3) (k := 3) (by decide))
      refine ⟨v2, rfl, ?_⟩
      refine (s_X8_skillOf w_m1 SS_21).to ?_
      rintro _ m3 ⟨w_m3, g8, v4, rfl⟩
      have f_m3 : Fx (RS [4, 53]) m0 m3 := f_m1.tr g8 (RS_sub rfl)
      have e9 : (m3.1 3 3).toInt = ((m1.1 3 3)).toInt := congrArg _ (g8.at (a := 3) (k := 3) (by decide))
      refine ⟨v4, rfl, ?_⟩
      refine (s_X8_putSkill w_m3 SS_21).to ?_
      rintro _ m5 ⟨w_m5, g10, rfl⟩
      have f_m5 : Fx (RS [4, 53]) m0 m5 := f_m3.tr g10 (RS_sub rfl)
      have e11 : (m5.1 3 3).toInt = ((m3.1 3 3)).toInt := congrArg _ (g10.at (a := 3) (k := 3) (by decide))
      refine ⟨rfl, ?_⟩
      refine (s_X8_putSkill w_m5 SS_21).to ?_
      rintro _ m6 ⟨w_m6, g12, rfl⟩
      have f_m6 : Fx (RS [4, 53]) m0 m6 := f_m5.tr g12 (RS_sub rfl)
      have e13 : (m6.1 3 3).toInt = ((m5.1 3 3)).toInt := congrArg _ (g12.at (a := 3) (k := 3) (by decide))
      refine ⟨rfl, ?_⟩
      have t14 := ti_addc (x := x3) (y := (1 : Int32)) (c := 1) rfl (by omega)
      exact ih _ _ _ _ w_m6 f_m6 (by show (0 : Int) ≤ ((x3 + (1 : Int32))).toInt; omega) (by show ((x3 + (1 : Int32))).toInt ≤ (4 : Int); omega) (by show 0 ≤ (x1).toInt ∧ (x1).toInt < (m0.1 3 3).toInt ∧ 0 ≤ (x2).toInt ∧ (x2).toInt < (m0.1 3 3).toInt ∧ (x1).toInt ≠ (x2).toInt; omega) (by show 4 - ((x3 + (1 : Int32))).toInt < _; omega)
set_option maxHeartbeats 4000000 in
theorem s_X11_swap {ad : Nat → Nat} {d : Nat} {m : Wm} {x1 x2 : Int32} (w : WT m) : Ct ad μX11_swap (d + 2) [.ref (ad 0), .int x1, .int x2] m (fun r m' => WT m' ∧ Fx (RS [4, 53]) m m' ∧ ∃ v : Int32, r = some (.int v) ∧ (0 : Int) ≤ v.toInt ∧ v.toInt ≤ 1 ∧ ((v.toInt = 0 ∧ (x1.toInt < 0 ∨ (m.1 3 3).toInt ≤ x1.toInt ∨ x2.toInt < 0 ∨ (m.1 3 3).toInt ≤ x2.toInt ∨ x1.toInt = x2.toInt)) ∨ (v.toInt = 1 ∧ 0 ≤ x1.toInt ∧ x1.toInt < (m.1 3 3).toInt ∧ 0 ≤ x2.toInt ∧ x2.toInt < (m.1 3 3).toInt ∧ x1.toInt ≠ x2.toInt))) := by
  have f : Fx (RS [4, 53]) m m := Fx.rf
  refine v_X11_swap  ?_
  refine (s_X1_canMeet w).to ?_
  rintro _ m1 ⟨w_m1, g1, v2, rfl, p3, p4, p2⟩
  have f_m1 : Fx (RS [4, 53]) m m1 := f.tr g1 (RS_sub rfl)
  have p5 : (v2.toInt = 0 ∧ ((x1).toInt < 0 ∨ ((m.1 3 3)).toInt ≤ (x1).toInt ∨ (x2).toInt < 0 ∨ ((m.1 3 3)).toInt ≤ (x2).toInt ∨ (x1).toInt = (x2).toInt)) ∨ (v2.toInt = 1 ∧ 0 ≤ (x1).toInt ∧ (x1).toInt < ((m.1 3 3)).toInt ∧ (x1).toInt ≤ 7 ∧ 0 ≤ (x2).toInt ∧ (x2).toInt < ((m.1 3 3)).toInt ∧ (x2).toInt ≤ 7 ∧ (x1).toInt ≠ (x2).toInt) := p2
  clear p2
  have e6 : (m1.1 3 3).toInt = ((m.1 3 3)).toInt := congrArg _ (g1.at (a := 3) (k := 3) (by decide))
  refine ⟨v2, rfl, ?_⟩
  refine ⟨?_, ?_⟩
  · intro c7
    have k8 := y_ner (n := 0) rfl c7
    exact (l_X11_swap (m0 := m) 1000000) _ _ _ _ w_m1 f_m1 (by show (0 : Int) ≤ (0 : Int); omega) (by show (0 : Int) ≤ (4 : Int); omega) (by show 0 ≤ (x1).toInt ∧ (x1).toInt < (m.1 3 3).toInt ∧ 0 ≤ (x2).toInt ∧ (x2).toInt < (m.1 3 3).toInt ∧ (x1).toInt ≠ (x2).toInt; omega) (by show 4 - (0 : Int) < _; omega)
  · intro c9
    have k10 := y_eqr (n := 0) rfl c9
    exact ⟨w_m1, f_m1, _, rfl, (by show (0 : Int) ≤ (0 : Int); omega), (by show (0 : Int) ≤ (1 : Int); omega), (by show ((0 : Int) = 0 ∧ (x1.toInt < 0 ∨ (m.1 3 3).toInt ≤ x1.toInt ∨ x2.toInt < 0 ∨ (m.1 3 3).toInt ≤ x2.toInt ∨ x1.toInt = x2.toInt)) ∨ ((0 : Int) = 1 ∧ 0 ≤ x1.toInt ∧ x1.toInt < (m.1 3 3).toInt ∧ 0 ≤ x2.toInt ∧ x2.toInt < (m.1 3 3).toInt ∧ x1.toInt ≠ x2.toInt); omega)⟩
set_option maxHeartbeats 4000000 in
theorem s_X11_circle {ad : Nat → Nat} {d : Nat} {m : Wm} (w : WT m) : Ct ad μX11_circle (d + 2) [.ref (ad 0)] m (fun r m' => WT m' ∧ Fx (RS [7, 44]) m m' ∧ ∃ v : Int32, r = some (.int v)) := by
  have f : Fx (RS [7, 44]) m m := Fx.rf
  refine v_X11_circle  ?_
  refine ⟨?_, ?_⟩
  · intro c1
    have r2 := w.at (a := 3) (k := 3) rfl
    have k3 := y_lel (n := 2) rfl c1
    obtain ⟨r1, e4, q5⟩ := w.r09
    refine ⟨r1, e4, Pl_of q5, ?_⟩
    refine (s_X3_fillEachWithEach w q5 (by show (0 : Int) ≤ ((m.1 3 3)).toInt; omega) (by show ((m.1 3 3)).toInt ≤ (8 : Int); omega)).to ?_
    rintro _ m2 ⟨w_m2, g6, rfl⟩
    have f_m2 : Fx (RS [7, 44]) m m2 := f.tr g6 (RS_sub rfl)
    refine ⟨rfl, ?_⟩
    obtain ⟨r3, e7, q8⟩ := w_m2.r09
    refine ⟨r3, e7, Pl_of q8, ?_⟩
    have w9 : WT (uI m2 0 11 (0 : Int32)) := w_m2.n rfl
    have f9 : Fx (RS [7, 44]) m (uI m2 0 11 (0 : Int32)) := f_m2.i rfl
    have r10 := w9.pl (k := 5) q8 rfl rfl
    exact ⟨w9, f9, _, rfl⟩
  · intro c11
    have r12 := w.at (a := 3) (k := 3) rfl
    have k13 := y_nlel (n := 2) rfl c11
    exact ⟨w, f, _, rfl⟩
set_option maxHeartbeats 4000000 in
theorem s_X11_tell {ad : Nat → Nat} {d : Nat} {m : Wm} {y1 : Int64} (w : WT m) : Ct ad μX11_tell d [.ref (ad 0), .long y1] m (fun r m' => WT m' ∧ Fx (RS [9]) m m' ∧ r = none) := by
  have f : Fx (RS [9]) m m := Fx.rf
  refine v_X11_tell  ?_
  have w1 : WT (uL m 150 ((0 : Int32).toNatClampNeg) y1) := w.l
  have f1 : Fx (RS [9]) m (uL m 150 ((0 : Int32).toNatClampNeg) y1) := f.l rfl
  have w2 : WT (uI (uL m 150 ((0 : Int32).toNatClampNeg) y1) 0 18 (1 : Int32)) := w1.t rfl (by show (0 : Int) ≤ (1 : Int); omega) (by show (1 : Int) ≤ 10; omega)
  have f2 : Fx (RS [9]) m (uI (uL m 150 ((0 : Int32).toNatClampNeg) y1) 0 18 (1 : Int32)) := f1.i rfl
  exact ⟨w2, f2, rfl⟩
set_option maxHeartbeats 4000000 in
theorem s_X11_tell_ {ad : Nat → Nat} {d : Nat} {m : Wm} {y1 y3 : Int64} (w : WT m) : Ct ad μX11_tell_ d [.ref (ad 0), .long y1, .long y3] m (fun r m' => WT m' ∧ Fx (RS [9]) m m' ∧ r = none) := by
  have f : Fx (RS [9]) m m := Fx.rf
  refine v_X11_tell_  ?_
  have w1 : WT (uL m 150 ((0 : Int32).toNatClampNeg) y1) := w.l
  have f1 : Fx (RS [9]) m (uL m 150 ((0 : Int32).toNatClampNeg) y1) := f.l rfl
  have w2 : WT (uL (uL m 150 ((0 : Int32).toNatClampNeg) y1) 150 ((1 : Int32).toNatClampNeg) y3) := w1.l
  have f2 : Fx (RS [9]) m (uL (uL m 150 ((0 : Int32).toNatClampNeg) y1) 150 ((1 : Int32).toNatClampNeg) y3) := f1.l rfl
  have w3 : WT (uI (uL (uL m 150 ((0 : Int32).toNatClampNeg) y1) 150 ((1 : Int32).toNatClampNeg) y3) 0 18 (2 : Int32)) := w2.t rfl (by show (0 : Int) ≤ (2 : Int); omega) (by show (2 : Int) ≤ 10; omega)
  have f3 : Fx (RS [9]) m (uI (uL (uL m 150 ((0 : Int32).toNatClampNeg) y1) 150 ((1 : Int32).toNatClampNeg) y3) 0 18 (2 : Int32)) := f2.i rfl
  exact ⟨w3, f3, rfl⟩
set_option maxHeartbeats 4000000 in
theorem s_X11_tell__ {ad : Nat → Nat} {d : Nat} {m : Wm} {y1 y3 y5 : Int64} (w : WT m) : Ct ad μX11_tell__ d [.ref (ad 0), .long y1, .long y3, .long y5] m (fun r m' => WT m' ∧ Fx (RS [9]) m m' ∧ r = none) := by
  have f : Fx (RS [9]) m m := Fx.rf
  refine v_X11_tell__  ?_
  have w1 : WT (uL m 150 ((0 : Int32).toNatClampNeg) y1) := w.l
  have f1 : Fx (RS [9]) m (uL m 150 ((0 : Int32).toNatClampNeg) y1) := f.l rfl
  have w2 : WT (uL (uL m 150 ((0 : Int32).toNatClampNeg) y1) 150 ((1 : Int32).toNatClampNeg) y3) := w1.l
  have f2 : Fx (RS [9]) m (uL (uL m 150 ((0 : Int32).toNatClampNeg) y1) 150 ((1 : Int32).toNatClampNeg) y3) := f1.l rfl
  have w3 : WT (uL (uL (uL m 150 ((0 : Int32).toNatClampNeg) y1) 150 ((1 : Int32).toNatClampNeg) y3) 150 ((2 : Int32).toNatClampNeg) y5) := w2.l
  have f3 : Fx (RS [9]) m (uL (uL (uL m 150 ((0 : Int32).toNatClampNeg) y1) 150 ((1 : Int32).toNatClampNeg) y3) 150 ((2 : Int32).toNatClampNeg) y5) := f2.l rfl
  have w4 : WT (uI (uL (uL (uL m 150 ((0 : Int32).toNatClampNeg) y1) 150 ((1 : Int32).toNatClampNeg) y3) 150 ((2 : Int32).toNatClampNeg) y5) 0 18 (3 : Int32)) := w3.t rfl (by show (0 : Int) ≤ (3 : Int); omega) (by show (3 : Int) ≤ 10; omega)
  have f4 : Fx (RS [9]) m (uI (uL (uL (uL m 150 ((0 : Int32).toNatClampNeg) y1) 150 ((1 : Int32).toNatClampNeg) y3) 150 ((2 : Int32).toNatClampNeg) y5) 0 18 (3 : Int32)) := f3.i rfl
  exact ⟨w4, f4, rfl⟩
set_option maxHeartbeats 4000000 in
theorem s_X11_game {ad : Nat → Nat} {d : Nat} {m : Wm} {x1 x2 x3 : Int32} (w : WT m) : Ct ad μX11_game (d + 5) [.ref (ad 0), .int x1, .int x2, .int x3] m (fun r m' => WT m' ∧ Fx (RS [2, 5, 9, 14]) m m' ∧ ∃ v : Int32, r = some (.int v)) := by
  have f : Fx (RS [2, 5, 9, 14]) m m := Fx.rf
  refine v_X11_game  ?_
  refine (s_X1_canMeet w).to ?_
  rintro _ m1 ⟨w_m1, g1, v2, rfl, p3, p4, p2⟩
  have f_m1 : Fx (RS [2, 5, 9, 14]) m m1 := f.tr g1 (RS_sub rfl)
  have p5 : (v2.toInt = 0 ∧ ((x1).toInt < 0 ∨ ((m.1 3 3)).toInt ≤ (x1).toInt ∨ (x2).toInt < 0 ∨ ((m.1 3 3)).toInt ≤ (x2).toInt ∨ (x1).toInt = (x2).toInt)) ∨ (v2.toInt = 1 ∧ 0 ≤ (x1).toInt ∧ (x1).toInt < ((m.1 3 3)).toInt ∧ (x1).toInt ≤ 7 ∧ 0 ≤ (x2).toInt ∧ (x2).toInt < ((m.1 3 3)).toInt ∧ (x2).toInt ≤ 7 ∧ (x1).toInt ≠ (x2).toInt) := p2
  clear p2
  refine ⟨v2, rfl, ?_⟩
  refine ⟨?_, ?_⟩
  · intro c6
    have k7 := y_eqr (n := 0) rfl c6
    exact ⟨w_m1, f_m1, _, rfl⟩
  · intro c8
    have k9 := y_ner (n := 0) rfl c8
    refine ⟨?_, ?_⟩
    · intro c10
      have k11 := y_ltr (n := 0) rfl c10
      exact ⟨w_m1, f_m1, _, rfl⟩
    · intro c12
      have k13 := y_nltr (n := 0) rfl c12
      refine ⟨?_, ?_⟩
      · intro c14
        have k15 := y_ler (n := 3) rfl c14
        refine (s_X8_copy w_m1 SS_26 SS_21).to ?_
        rintro _ m3 ⟨w_m3, g16, rfl⟩
        have f_m3 : Fx (RS [2, 5, 9, 14]) m m3 := f_m1.tr g16 (RS_sub rfl)
        refine ⟨rfl, ?_⟩
        refine (s_X1_result w_m3 SS_26 (by show (0 : Int) ≤ (x1).toInt; omega) (by show (x1).toInt ≤ (7 : Int); omega) (by show (0 : Int) ≤ (x2).toInt; omega) (by show (x2).toInt ≤ (7 : Int); omega)).to ?_
        rintro _ m4 ⟨w_m4, g17, v5, rfl, p18, p19⟩
        have f_m4 : Fx (RS [2, 5, 9, 14]) m m4 := f_m3.tr g17 (RS_sub rfl)
        refine ⟨v5, rfl, ?_⟩
        refine (s_X1_settle w_m4 SS_26 (by show (0 : Int) ≤ (x1).toInt; omega) (by show (x1).toInt ≤ (7 : Int); omega) (by show (0 : Int) ≤ (x2).toInt; omega) (by show (x2).toInt ≤ (7 : Int); omega)).to ?_
        rintro _ m6 ⟨w_m6, g20, rfl⟩
        have f_m6 : Fx (RS [2, 5, 9, 14]) m m6 := f_m4.tr g20 (RS_sub rfl)
        refine ⟨rfl, ?_⟩
        refine (s_X11_tell_ w_m6).to ?_
        rintro _ m7 ⟨w_m7, g21, rfl⟩
        have f_m7 : Fx (RS [2, 5, 9, 14]) m m7 := f_m6.tr g21 (RS_sub rfl)
        refine ⟨rfl, ?_⟩
        exact ⟨w_m7, f_m7, _, rfl⟩
      · intro c22
        have k23 := y_nler (n := 3) rfl c22
        exact ⟨w_m1, f_m1, _, rfl⟩
set_option maxHeartbeats 4000000 in
theorem s_X11_odds {ad : Nat → Nat} {d : Nat} {m : Wm} {x1 x2 : Int32} (w : WT m) : Ct ad μX11_odds (d + 5) [.ref (ad 0), .int x1, .int x2] m (fun r m' => WT m' ∧ Fx (RS [14]) m m' ∧ ∃ v : Int32, r = some (.int v)) := by
  have f : Fx (RS [14]) m m := Fx.rf
  refine v_X11_odds  ?_
  refine (s_X1_canMeet w).to ?_
  rintro _ m1 ⟨w_m1, g1, v2, rfl, p3, p4, p2⟩
  have f_m1 : Fx (RS [14]) m m1 := f.tr g1 (RS_sub rfl)
  have p5 : (v2.toInt = 0 ∧ ((x1).toInt < 0 ∨ ((m.1 3 3)).toInt ≤ (x1).toInt ∨ (x2).toInt < 0 ∨ ((m.1 3 3)).toInt ≤ (x2).toInt ∨ (x1).toInt = (x2).toInt)) ∨ (v2.toInt = 1 ∧ 0 ≤ (x1).toInt ∧ (x1).toInt < ((m.1 3 3)).toInt ∧ (x1).toInt ≤ 7 ∧ 0 ≤ (x2).toInt ∧ (x2).toInt < ((m.1 3 3)).toInt ∧ (x2).toInt ≤ 7 ∧ (x1).toInt ≠ (x2).toInt) := p2
  clear p2
  refine ⟨v2, rfl, ?_⟩
  refine ⟨?_, ?_⟩
  · intro c6
    have k7 := y_eqr (n := 0) rfl c6
    exact ⟨w_m1, f_m1, _, rfl⟩
  · intro c8
    have k9 := y_ner (n := 0) rfl c8
    refine (s_X1_chance w_m1 SS_21 (by show (0 : Int) ≤ (x1).toInt; omega) (by show (x1).toInt ≤ (7 : Int); omega) (by show (0 : Int) ≤ (x2).toInt; omega) (by show (x2).toInt ≤ (7 : Int); omega)).to ?_
    rintro _ m3 ⟨w_m3, g10, v4, rfl, p11, p12⟩
    have f_m3 : Fx (RS [14]) m m3 := f_m1.tr g10 (RS_sub rfl)
    refine ⟨v4, rfl, ?_⟩
    exact ⟨w_m3, f_m3, _, rfl⟩
set_option maxHeartbeats 4000000 in
theorem l_X11_playNow {ad : Nat → Nat} {d : Nat} {m0 : Wm}  : ∀ n : Nat, (∀ (m : Wm) (x1 x2 x3 s0 : Int32), WT m → Fx (RS [2, 4, 6, 14, 53]) m0 m → (0 : Int) ≤ x1.toInt → x1.toInt ≤ (7 : Int) → (0 : Int) ≤ x2.toInt → x2.toInt ≤ (7 : Int) → 0 * x1.toInt + 4 < (n : Int) → AW ad E0 μX11_playNow (d + 6) (fun r m' => WT m' ∧ Fx (RS [2, 4, 6, 14, 53]) m0 m' ∧ ∃ v : Int32, r = some (.int v) ∧ (0 : Int) ≤ v.toInt ∧ v.toInt ≤ 2) 32 [(0, .ref (ad 0)), (1, .int x1), (2, .int x2), (3, .int x3)] [.int s0] m) ∧ (∀ (m : Wm) (x1 x2 x3 s0 : Int32), WT m → Fx (RS [2, 4, 6, 14, 53]) m0 m → (0 : Int) ≤ x1.toInt → x1.toInt ≤ (7 : Int) → (0 : Int) ≤ x2.toInt → x2.toInt ≤ (7 : Int) → (0 : Int) ≤ s0.toInt → s0.toInt ≤ (2 : Int) → 0 * x1.toInt + 3 < (n : Int) → AW ad E0 μX11_playNow (d + 6) (fun r m' => WT m' ∧ Fx (RS [2, 4, 6, 14, 53]) m0 m' ∧ ∃ v : Int32, r = some (.int v) ∧ (0 : Int) ≤ v.toInt ∧ v.toInt ≤ 2) 69 [(0, .ref (ad 0)), (1, .int x1), (2, .int x2), (3, .int x3)] [.int s0] m) ∧ (∀ (m : Wm) (x1 x2 x3 x5 : Int32), WT m → Fx (RS [2, 4, 6, 14, 53]) m0 m → (0 : Int) ≤ x1.toInt → x1.toInt ≤ (7 : Int) → (0 : Int) ≤ x2.toInt → x2.toInt ≤ (7 : Int) → (0 : Int) ≤ x5.toInt → x5.toInt ≤ (2 : Int) → 0 * x1.toInt + 2 < (n : Int) → AW ad E0 μX11_playNow (d + 6) (fun r m' => WT m' ∧ Fx (RS [2, 4, 6, 14, 53]) m0 m' ∧ ∃ v : Int32, r = some (.int v) ∧ (0 : Int) ≤ v.toInt ∧ v.toInt ≤ 2) 90 [(0, .ref (ad 0)), (1, .int x1), (2, .int x2), (3, .int x3), (5, .int x5)] [] m) ∧ (∀ (m : Wm) (x1 x2 x5 : Int32), WT m → Fx (RS [2, 4, 6, 14, 53]) m0 m → (0 : Int) ≤ x1.toInt → x1.toInt ≤ (7 : Int) → (0 : Int) ≤ x2.toInt → x2.toInt ≤ (7 : Int) → (0 : Int) ≤ x5.toInt → x5.toInt ≤ (2 : Int) → 0 * x1.toInt + 1 < (n : Int) → AW ad E0 μX11_playNow (d + 6) (fun r m' => WT m' ∧ Fx (RS [2, 4, 6, 14, 53]) m0 m' ∧ ∃ v : Int32, r = some (.int v) ∧ (0 : Int) ≤ v.toInt ∧ v.toInt ≤ 2) 109 [(0, .ref (ad 0)), (1, .int x1), (2, .int x2), (5, .int x5)] [] m) := by
  intro n
  induction n with
  | zero =>
    refine ⟨?_, ?_, ?_, ?_⟩ <;> intros <;> exfalso <;> omega
  | succ n ih =>
    refine ⟨?_, ?_, ?_, ?_⟩
    · intro m x1 x2 x3 s0 w f j1 j2 j3 j4 hn
      refine g_X11_playNow_32  ?_
      refine ⟨?_, ?_⟩
      · intro c1
        have k2 := y_eqr (n := 0) rfl c1
        refine (s_X1_result w SS_21 (by show (0 : Int) ≤ (x1).toInt; omega) (by show (x1).toInt ≤ (7 : Int); omega) (by show (0 : Int) ≤ (x2).toInt; omega) (by show (x2).toInt ≤ (7 : Int); omega)).to ?_
        rintro _ m1 ⟨w_m1, g3, v2, rfl, p4, p5⟩
        have f_m1 : Fx (RS [2, 4, 6, 14, 53]) m0 m1 := f.tr g3 (RS_sub rfl)
        refine ⟨v2, rfl, ?_⟩
        exact ih.2.1 _ _ _ _ _ w_m1 f_m1 (by show (0 : Int) ≤ (x1).toInt; omega) (by show (x1).toInt ≤ (7 : Int); omega) (by show (0 : Int) ≤ (x2).toInt; omega) (by show (x2).toInt ≤ (7 : Int); omega) (by show (0 : Int) ≤ (v2).toInt; omega) (by show (v2).toInt ≤ (2 : Int); omega) (by show 0 * (x1).toInt + 3 < _; omega)
      · intro c6
        have k7 := y_ner (n := 0) rfl c6
        refine (s_X1_drawnResult w SS_21 (by show (0 : Int) ≤ (x1).toInt; omega) (by show (x1).toInt ≤ (7 : Int); omega) (by show (0 : Int) ≤ (x2).toInt; omega) (by show (x2).toInt ≤ (7 : Int); omega)).to ?_
        rintro _ m3 ⟨w_m3, g8, v4, rfl, p9, p10⟩
        have f_m3 : Fx (RS [2, 4, 6, 14, 53]) m0 m3 := f.tr g8 (RS_sub rfl)
        refine ⟨v4, rfl, ?_⟩
        exact ih.2.1 _ _ _ _ _ w_m3 f_m3 (by show (0 : Int) ≤ (x1).toInt; omega) (by show (x1).toInt ≤ (7 : Int); omega) (by show (0 : Int) ≤ (x2).toInt; omega) (by show (x2).toInt ≤ (7 : Int); omega) (by show (0 : Int) ≤ (v4).toInt; omega) (by show (v4).toInt ≤ (2 : Int); omega) (by show 0 * (x1).toInt + 3 < _; omega)
    · intro m x1 x2 x3 s0 w f j1 j2 j3 j4 j5 j6 hn
      refine g_X11_playNow_69  ?_
      refine ⟨?_, ?_⟩
      · intro c1
        have t2 := t_and1 x3
        have k3 := y_eqr (n := 0) rfl c1
        exact ih.2.2.1 _ _ _ _ _ w f (by show (0 : Int) ≤ (x1).toInt; omega) (by show (x1).toInt ≤ (7 : Int); omega) (by show (0 : Int) ≤ (x2).toInt; omega) (by show (x2).toInt ≤ (7 : Int); omega) (by show (0 : Int) ≤ (s0).toInt; omega) (by show (s0).toInt ≤ (2 : Int); omega) (by show 0 * (x1).toInt + 2 < _; omega)
      · intro c4
        have t5 := t_and1 x3
        have k6 := y_ner (n := 0) rfl c4
        refine ⟨?_, ?_⟩
        · exact vpi (by omega) (by omega)
        · refine ⟨?_, ?_⟩
          · exact vpi (by omega) (by omega)
          · have w7 : WT (uI m 25 x1.toNatClampNeg ((m.1 25 x1.toNatClampNeg) + (1 : Int32))) := w.n rfl
            have f7 : Fx (RS [2, 4, 6, 14, 53]) m0 (uI m 25 x1.toNatClampNeg ((m.1 25 x1.toNatClampNeg) + (1 : Int32))) := f.i rfl
            exact ih.2.2.1 _ _ _ _ _ w7 f7 (by show (0 : Int) ≤ (x1).toInt; omega) (by show (x1).toInt ≤ (7 : Int); omega) (by show (0 : Int) ≤ (x2).toInt; omega) (by show (x2).toInt ≤ (7 : Int); omega) (by show (0 : Int) ≤ (s0).toInt; omega) (by show (s0).toInt ≤ (2 : Int); omega) (by show 0 * (x1).toInt + 2 < _; omega)
    · intro m x1 x2 x3 x5 w f j1 j2 j3 j4 j5 j6 hn
      refine g_X11_playNow_90  ?_
      refine ⟨?_, ?_⟩
      · intro c1
        have k2 := y_eqr (n := 0) rfl c1
        exact ih.2.2.2 _ _ _ _ w f (by show (0 : Int) ≤ (x1).toInt; omega) (by show (x1).toInt ≤ (7 : Int); omega) (by show (0 : Int) ≤ (x2).toInt; omega) (by show (x2).toInt ≤ (7 : Int); omega) (by show (0 : Int) ≤ (x5).toInt; omega) (by show (x5).toInt ≤ (2 : Int); omega) (by show 0 * (x1).toInt + 1 < _; omega)
      · intro c3
        have k4 := y_ner (n := 0) rfl c3
        refine ⟨?_, ?_⟩
        · exact vpi (by omega) (by omega)
        · refine ⟨?_, ?_⟩
          · exact vpi (by omega) (by omega)
          · have w5 : WT (uI m 25 x2.toNatClampNeg ((m.1 25 x2.toNatClampNeg) + (1 : Int32))) := w.n rfl
            have f5 : Fx (RS [2, 4, 6, 14, 53]) m0 (uI m 25 x2.toNatClampNeg ((m.1 25 x2.toNatClampNeg) + (1 : Int32))) := f.i rfl
            exact ih.2.2.2 _ _ _ _ w5 f5 (by show (0 : Int) ≤ (x1).toInt; omega) (by show (x1).toInt ≤ (7 : Int); omega) (by show (0 : Int) ≤ (x2).toInt; omega) (by show (x2).toInt ≤ (7 : Int); omega) (by show (0 : Int) ≤ (x5).toInt; omega) (by show (x5).toInt ≤ (2 : Int); omega) (by show 0 * (x1).toInt + 1 < _; omega)
    · intro m x1 x2 x5 w f j1 j2 j3 j4 j5 j6 hn
      refine g_X11_playNow_109  ?_
      refine (s_X1_settle w SS_21 (by show (0 : Int) ≤ (x1).toInt; omega) (by show (x1).toInt ≤ (7 : Int); omega) (by show (0 : Int) ≤ (x2).toInt; omega) (by show (x2).toInt ≤ (7 : Int); omega)).to ?_
      rintro _ m1 ⟨w_m1, g1, rfl⟩
      have f_m1 : Fx (RS [2, 4, 6, 14, 53]) m0 m1 := f.tr g1 (RS_sub rfl)
      refine ⟨rfl, ?_⟩
      exact ⟨w_m1, f_m1, _, rfl, (by show (0 : Int) ≤ (x5).toInt; omega), (by show (x5).toInt ≤ (2 : Int); omega)⟩
set_option maxHeartbeats 4000000 in
theorem s_X11_playNow {ad : Nat → Nat} {d : Nat} {m : Wm} {x1 x2 x3 : Int32} (w : WT m) (i1 : (0 : Int) ≤ x1.toInt) (i2 : x1.toInt ≤ (7 : Int)) (i3 : (0 : Int) ≤ x2.toInt) (i4 : x2.toInt ≤ (7 : Int)) : Ct ad μX11_playNow (d + 6) [.ref (ad 0), .int x1, .int x2, .int x3] m (fun r m' => WT m' ∧ Fx (RS [2, 4, 6, 14, 53]) m m' ∧ ∃ v : Int32, r = some (.int v) ∧ (0 : Int) ≤ v.toInt ∧ v.toInt ≤ 2) := by
  have f : Fx (RS [2, 4, 6, 14, 53]) m m := Fx.rf
  refine v_X11_playNow  ?_
  refine (s_X2_save w).to ?_
  rintro _ m1 ⟨w_m1, g1, rfl⟩
  have f_m1 : Fx (RS [2, 4, 6, 14, 53]) m m1 := f.tr g1 (RS_sub rfl)
  refine ⟨rfl, ?_⟩
  refine ⟨?_, ?_⟩
  · intro c2
    have k3 := y_ler (n := 0) rfl c2
    exact (l_X11_playNow (m0 := m) 1000000).1 _ _ _ _ _ w_m1 f_m1 (by show (0 : Int) ≤ (x1).toInt; omega) (by show (x1).toInt ≤ (7 : Int); omega) (by show (0 : Int) ≤ (x2).toInt; omega) (by show (x2).toInt ≤ (7 : Int); omega) (by show 0 * (x1).toInt + 4 < _; omega)
  · intro c4
    have k5 := y_nler (n := 0) rfl c4
    refine ⟨?_, ?_⟩
    · intro c6
      have k7 := y_ner (n := 0) rfl c6
      exact (l_X11_playNow (m0 := m) 1000000).1 _ _ _ _ _ w_m1 f_m1 (by show (0 : Int) ≤ (x1).toInt; omega) (by show (x1).toInt ≤ (7 : Int); omega) (by show (0 : Int) ≤ (x2).toInt; omega) (by show (x2).toInt ≤ (7 : Int); omega) (by show 0 * (x1).toInt + 4 < _; omega)
    · intro c8
      have k9 := y_eqr (n := 0) rfl c8
      exact (l_X11_playNow (m0 := m) 1000000).1 _ _ _ _ _ w_m1 f_m1 (by show (0 : Int) ≤ (x1).toInt; omega) (by show (x1).toInt ≤ (7 : Int); omega) (by show (0 : Int) ≤ (x2).toInt; omega) (by show (x2).toInt ≤ (7 : Int); omega) (by show 0 * (x1).toInt + 4 < _; omega)
set_option maxHeartbeats 4000000 in
theorem s_X11_play {ad : Nat → Nat} {d : Nat} {m : Wm} {x1 x2 x3 : Int32} (w : WT m) : Ct ad μX11_play (d + 7) [.ref (ad 0), .int x1, .int x2, .int x3] m (fun r m' => WT m' ∧ Fx (RS [2, 4, 6, 9, 14, 53]) m m' ∧ ∃ v : Int32, r = some (.int v)) := by
  have f : Fx (RS [2, 4, 6, 9, 14, 53]) m m := Fx.rf
  refine v_X11_play  ?_
  refine (s_X1_canMeet w).to ?_
  rintro _ m1 ⟨w_m1, g1, v2, rfl, p3, p4, p2⟩
  have f_m1 : Fx (RS [2, 4, 6, 9, 14, 53]) m m1 := f.tr g1 (RS_sub rfl)
  have p5 : (v2.toInt = 0 ∧ ((x1).toInt < 0 ∨ ((m.1 3 3)).toInt ≤ (x1).toInt ∨ (x2).toInt < 0 ∨ ((m.1 3 3)).toInt ≤ (x2).toInt ∨ (x1).toInt = (x2).toInt)) ∨ (v2.toInt = 1 ∧ 0 ≤ (x1).toInt ∧ (x1).toInt < ((m.1 3 3)).toInt ∧ (x1).toInt ≤ 7 ∧ 0 ≤ (x2).toInt ∧ (x2).toInt < ((m.1 3 3)).toInt ∧ (x2).toInt ≤ 7 ∧ (x1).toInt ≠ (x2).toInt) := p2
  clear p2
  refine ⟨v2, rfl, ?_⟩
  refine ⟨?_, ?_⟩
  · intro c6
    have k7 := y_eqr (n := 0) rfl c6
    exact ⟨w_m1, f_m1, _, rfl⟩
  · intro c8
    have k9 := y_ner (n := 0) rfl c8
    refine ⟨?_, ?_⟩
    · intro c10
      have k11 := y_ltr (n := 0) rfl c10
      exact ⟨w_m1, f_m1, _, rfl⟩
    · intro c12
      have k13 := y_nltr (n := 0) rfl c12
      refine ⟨?_, ?_⟩
      · intro c14
        have k15 := y_ler (n := 3) rfl c14
        refine (s_X11_playNow w_m1 (by show (0 : Int) ≤ (x1).toInt; omega) (by show (x1).toInt ≤ (7 : Int); omega) (by show (0 : Int) ≤ (x2).toInt; omega) (by show (x2).toInt ≤ (7 : Int); omega)).to ?_
        rintro _ m3 ⟨w_m3, g16, v4, rfl, p17, p18⟩
        have f_m3 : Fx (RS [2, 4, 6, 9, 14, 53]) m m3 := f_m1.tr g16 (RS_sub rfl)
        refine ⟨v4, rfl, ?_⟩
        refine ⟨?_, ?_⟩
        · exact vpi (by omega) (by omega)
        · refine ⟨?_, ?_⟩
          · exact vpi (by omega) (by omega)
          · refine (s_X11_tell_ w_m3).to ?_
            rintro _ m5 ⟨w_m5, g19, rfl⟩
            have f_m5 : Fx (RS [2, 4, 6, 9, 14, 53]) m m5 := f_m3.tr g19 (RS_sub rfl)
            refine ⟨rfl, ?_⟩
            exact ⟨w_m5, f_m5, _, rfl⟩
      · intro c20
        have k21 := y_nler (n := 3) rfl c20
        exact ⟨w_m1, f_m1, _, rfl⟩
set_option maxHeartbeats 4000000 in
theorem s_X11_undo {ad : Nat → Nat} {d : Nat} {m : Wm} (w : WT m) : Ct ad μX11_undo (d + 3) [.ref (ad 0)] m (fun r m' => WT m' ∧ Fx (RS [4, 53]) m m' ∧ ∃ v : Int32, r = some (.int v)) := by
  have f : Fx (RS [4, 53]) m m := Fx.rf
  refine v_X11_undo  ?_
  refine (s_X2_takeBack w).to ?_
  rintro _ m1 ⟨w_m1, g1, v2, rfl, p2, p3⟩
  have f_m1 : Fx (RS [4, 53]) m m1 := f.tr g1 (RS_sub rfl)
  refine ⟨v2, rfl, ?_⟩
  refine ⟨?_, ?_⟩
  · intro c4
    have k5 := y_eqr (n := 0) rfl c4
    exact ⟨w_m1, f_m1, _, rfl⟩
  · intro c6
    have k7 := y_ner (n := 0) rfl c6
    have r8 := w_m1.at (a := 31) (k := 1) rfl
    exact ⟨w_m1, f_m1, _, rfl⟩
set_option maxHeartbeats 4000000 in
theorem s_X11_playTold {ad : Nat → Nat} {d : Nat} {m : Wm} {x1 : Int32} (w : WT m) : Ct ad μX11_playTold (d + 5) [.ref (ad 0), .int x1] m (fun r m' => WT m' ∧ Fx (RS [2, 5, 14]) m m' ∧ ∃ v : Int32, r = some (.int v) ∧ (0 : Int) ≤ v.toInt ∧ v.toInt ≤ 1) := by
  have f : Fx (RS [2, 5, 14]) m m := Fx.rf
  refine v_X11_playTold  ?_
  refine ⟨?_, ?_⟩
  · intro c1
    have k2 := y_ltl (n := 2) rfl c1
    exact ⟨w, f, _, rfl, (by show (0 : Int) ≤ (0 : Int); omega), (by show (0 : Int) ≤ (1 : Int); omega)⟩
  · intro c3
    have k4 := y_nltl (n := 2) rfl c3
    refine ⟨?_, ?_⟩
    · intro c5
      have k6 := z_le c5
      exact ⟨w, f, _, rfl, (by show (0 : Int) ≤ (0 : Int); omega), (by show (0 : Int) ≤ (1 : Int); omega)⟩
    · intro c7
      have k8 := z_nle c7
      refine (s_X1_canMeet w).to ?_
      rintro _ m1 ⟨w_m1, g9, v2, rfl, p11, p12, p10⟩
      have f_m1 : Fx (RS [2, 5, 14]) m m1 := f.tr g9 (RS_sub rfl)
      have p13 : (v2.toInt = 0 ∧ ((((x1 / (10 : Int32)) - (((x1 / (10 : Int32)) / (10 : Int32)) * (10 : Int32)))).toInt < 0 ∨ ((m.1 3 3)).toInt ≤ (((x1 / (10 : Int32)) - (((x1 / (10 : Int32)) / (10 : Int32)) * (10 : Int32)))).toInt ∨ ((x1 - ((x1 / (10 : Int32)) * (10 : Int32)))).toInt < 0 ∨ ((m.1 3 3)).toInt ≤ ((x1 - ((x1 / (10 : Int32)) * (10 : Int32)))).toInt ∨ (((x1 / (10 : Int32)) - (((x1 / (10 : Int32)) / (10 : Int32)) * (10 : Int32)))).toInt = ((x1 - ((x1 / (10 : Int32)) * (10 : Int32)))).toInt)) ∨ (v2.toInt = 1 ∧ 0 ≤ (((x1 / (10 : Int32)) - (((x1 / (10 : Int32)) / (10 : Int32)) * (10 : Int32)))).toInt ∧ (((x1 / (10 : Int32)) - (((x1 / (10 : Int32)) / (10 : Int32)) * (10 : Int32)))).toInt < ((m.1 3 3)).toInt ∧ (((x1 / (10 : Int32)) - (((x1 / (10 : Int32)) / (10 : Int32)) * (10 : Int32)))).toInt ≤ 7 ∧ 0 ≤ ((x1 - ((x1 / (10 : Int32)) * (10 : Int32)))).toInt ∧ ((x1 - ((x1 / (10 : Int32)) * (10 : Int32)))).toInt < ((m.1 3 3)).toInt ∧ ((x1 - ((x1 / (10 : Int32)) * (10 : Int32)))).toInt ≤ 7 ∧ (((x1 / (10 : Int32)) - (((x1 / (10 : Int32)) / (10 : Int32)) * (10 : Int32)))).toInt ≠ ((x1 - ((x1 / (10 : Int32)) * (10 : Int32)))).toInt) := p10
      clear p10
      refine ⟨v2, rfl, ?_⟩
      refine ⟨?_, ?_⟩
      · intro c14
        have k15 := y_ner (n := 0) rfl c14
        refine (s_X1_result w_m1 SS_26 (by show (0 : Int) ≤ (((x1 / (10 : Int32)) - (((x1 / (10 : Int32)) / (10 : Int32)) * (10 : Int32)))).toInt; omega) (by show (((x1 / (10 : Int32)) - (((x1 / (10 : Int32)) / (10 : Int32)) * (10 : Int32)))).toInt ≤ (7 : Int); omega) (by show (0 : Int) ≤ ((x1 - ((x1 / (10 : Int32)) * (10 : Int32)))).toInt; omega) (by show ((x1 - ((x1 / (10 : Int32)) * (10 : Int32)))).toInt ≤ (7 : Int); omega)).to ?_
        rintro _ m3 ⟨w_m3, g16, v4, rfl, p17, p18⟩
        have f_m3 : Fx (RS [2, 5, 14]) m m3 := f_m1.tr g16 (RS_sub rfl)
        refine ⟨v4, rfl, ?_⟩
        refine (s_X1_settle w_m3 SS_26 (by show (0 : Int) ≤ (((x1 / (10 : Int32)) - (((x1 / (10 : Int32)) / (10 : Int32)) * (10 : Int32)))).toInt; omega) (by show (((x1 / (10 : Int32)) - (((x1 / (10 : Int32)) / (10 : Int32)) * (10 : Int32)))).toInt ≤ (7 : Int); omega) (by show (0 : Int) ≤ ((x1 - ((x1 / (10 : Int32)) * (10 : Int32)))).toInt; omega) (by show ((x1 - ((x1 / (10 : Int32)) * (10 : Int32)))).toInt ≤ (7 : Int); omega)).to ?_
        rintro _ m5 ⟨w_m5, g19, rfl⟩
        have f_m5 : Fx (RS [2, 5, 14]) m m5 := f_m3.tr g19 (RS_sub rfl)
        refine ⟨rfl, ?_⟩
        exact ⟨w_m5, f_m5, _, rfl, (by show (0 : Int) ≤ (1 : Int); omega), (by show (1 : Int) ≤ (1 : Int); omega)⟩
      · intro c20
        have k21 := y_eqr (n := 0) rfl c20
        exact ⟨w_m1, f_m1, _, rfl, (by show (0 : Int) ≤ (0 : Int); omega), (by show (0 : Int) ≤ (1 : Int); omega)⟩
set_option maxHeartbeats 4000000 in
theorem l_X11_judge {ad : Nat → Nat} {d : Nat} {m0 : Wm}  : ∀ n : Nat, (∀ (m : Wm) (x1 x2 x3 x4 : Int32), WT m → Fx (RS [2, 5, 9, 14]) m0 m → (0 : Int) ≤ x1.toInt → x1.toInt ≤ (3 : Int) → (0 : Int) ≤ x4.toInt → x4.toInt ≤ (3 : Int) → 4 - x4.toInt < (n : Int) → AW ad E0 μX11_judge (d + 6) (fun r m' => WT m' ∧ Fx (RS [2, 5, 9, 14]) m0 m' ∧ ∃ v : Int32, r = some (.int v)) 28 [(0, .ref (ad 0)), (1, .int x1), (2, .int x2), (3, .int x3), (4, .int x4)] [] m) ∧ (∀ (m : Wm) (x3 : Int32), WT m → Fx (RS [2, 5, 9, 14]) m0 m → 0 * x3.toInt < (n : Int) → AW ad E0 μX11_judge (d + 6) (fun r m' => WT m' ∧ Fx (RS [2, 5, 9, 14]) m0 m' ∧ ∃ v : Int32, r = some (.int v)) 67 [(0, .ref (ad 0)), (3, .int x3)] [] m) := by
  intro n
  induction n with
  | zero =>
    refine ⟨?_, ?_⟩ <;> intros <;> exfalso <;> omega
  | succ n ih =>
    refine ⟨?_, ?_⟩
    · intro m x1 x2 x3 x4 w f j1 j2 j3 j4 hn
      refine g_X11_judge_28  ?_
      refine ⟨?_, ?_⟩
      · intro c1
        have k2 := z_le c1
        exact ih.2 _ _ w f (by show 0 * (x3).toInt < _; omega)
      · intro c3
        have k4 := z_nle c3
        refine ⟨?_, ?_⟩
        · intro c5
          have k6 := y_ner (n := -2) rfl c5
          exact ih.2 _ _ w f (by show 0 * (x3).toInt < _; omega)
        · intro c7
          have k8 := y_eqr (n := -2) rfl c7
          refine (s_X11_playTold w).to ?_
          rintro _ m1 ⟨w_m1, g9, v2, rfl, p10, p11⟩
          have f_m1 : Fx (RS [2, 5, 9, 14]) m0 m1 := f.tr g9 (RS_sub rfl)
          refine ⟨v2, rfl, ?_⟩
          refine ⟨?_, ?_⟩
          · intro c12
            have k13 := y_ner (n := 0) rfl c12
            have t14 := ti_addc (x := x4) (y := (1 : Int32)) (c := 1) rfl (by omega)
            exact ih.1 _ _ _ _ _ w_m1 f_m1 (by show (0 : Int) ≤ (x1).toInt; omega) (by show (x1).toInt ≤ (3 : Int); omega) (by show (0 : Int) ≤ ((x4 + (1 : Int32))).toInt; omega) (by show ((x4 + (1 : Int32))).toInt ≤ (3 : Int); omega) (by show 4 - ((x4 + (1 : Int32))).toInt < _; omega)
          · intro c15
            have k16 := y_eqr (n := 0) rfl c15
            have t17 := ti_addc (x := x4) (y := (1 : Int32)) (c := 1) rfl (by omega)
            exact ih.1 _ _ _ _ _ w_m1 f_m1 (by show (0 : Int) ≤ (x1).toInt; omega) (by show (x1).toInt ≤ (3 : Int); omega) (by show (0 : Int) ≤ ((x4 + (1 : Int32))).toInt; omega) (by show ((x4 + (1 : Int32))).toInt ≤ (3 : Int); omega) (by show 4 - ((x4 + (1 : Int32))).toInt < _; omega)
    · intro m x3 w f  hn
      refine g_X11_judge_67  ?_
      refine (s_X1_total w SS_26).to ?_
      rintro _ m1 ⟨w_m1, g1, v2, rfl⟩
      have f_m1 : Fx (RS [2, 5, 9, 14]) m0 m1 := f.tr g1 (RS_sub rfl)
      refine ⟨v2, rfl, ?_⟩
      refine (s_X1_total w_m1 SS_21).to ?_
      rintro _ m3 ⟨w_m3, g2, v4, rfl⟩
      have f_m3 : Fx (RS [2, 5, 9, 14]) m0 m3 := f_m1.tr g2 (RS_sub rfl)
      refine ⟨v4, rfl, ?_⟩
      refine (s_X11_tell w_m3).to ?_
      rintro _ m5 ⟨w_m5, g3, rfl⟩
      have f_m5 : Fx (RS [2, 5, 9, 14]) m0 m5 := f_m3.tr g3 (RS_sub rfl)
      refine ⟨rfl, ?_⟩
      exact ⟨w_m5, f_m5, _, rfl⟩
set_option maxHeartbeats 4000000 in
theorem s_X11_judge {ad : Nat → Nat} {d : Nat} {m : Wm} {x1 x2 : Int32} (w : WT m) : Ct ad μX11_judge (d + 6) [.ref (ad 0), .int x1, .int x2] m (fun r m' => WT m' ∧ Fx (RS [2, 5, 9, 14]) m m' ∧ ∃ v : Int32, r = some (.int v)) := by
  have f : Fx (RS [2, 5, 9, 14]) m m := Fx.rf
  refine v_X11_judge  ?_
  refine ⟨?_, ?_⟩
  · intro c1
    have k2 := y_ltr (n := 0) rfl c1
    exact ⟨w, f, _, rfl⟩
  · intro c3
    have k4 := y_nltr (n := 0) rfl c3
    refine ⟨?_, ?_⟩
    · intro c5
      have k6 := y_ler (n := 3) rfl c5
      refine (s_X8_copy w SS_26 SS_21).to ?_
      rintro _ m1 ⟨w_m1, g7, rfl⟩
      have f_m1 : Fx (RS [2, 5, 9, 14]) m m1 := f.tr g7 (RS_sub rfl)
      refine ⟨rfl, ?_⟩
      exact (l_X11_judge (m0 := m) 1000000).1 _ _ _ _ _ w_m1 f_m1 (by show (0 : Int) ≤ (x1).toInt; omega) (by show (x1).toInt ≤ (3 : Int); omega) (by show (0 : Int) ≤ (0 : Int); omega) (by show (0 : Int) ≤ (3 : Int); omega) (by show 4 - (0 : Int) < _; omega)
    · intro c8
      have k9 := y_nler (n := 3) rfl c8
      exact ⟨w, f, _, rfl⟩
set_option maxHeartbeats 4000000 in
theorem l_X11_rounds {ad : Nat → Nat} {d : Nat} {m0 : Wm}  : ∀ n : Nat, (∀ (m : Wm) (x1 x2 x3 x4 : Int32), WT m → Fx (RS [2, 4, 6, 9, 14, 44, 53]) m0 m → (0 : Int) ≤ x1.toInt → x1.toInt ≤ (200 : Int) → (0 : Int) ≤ x4.toInt → x4.toInt ≤ (200 : Int) → (200 - x4.toInt) * 100 + 60 < (n : Int) → AW ad E0 μX11_rounds (d + 7) (fun r m' => WT m' ∧ Fx (RS [2, 4, 6, 9, 14, 44, 53]) m0 m' ∧ ∃ v : Int32, r = some (.int v)) 30 [(0, .ref (ad 0)), (1, .int x1), (2, .int x2), (3, .int x3), (4, .int x4)] [] m) ∧ (∀ (m : Wm) (x1 x2 x3 x4 x5 x6 : Int32), WT m → Fx (RS [2, 4, 6, 9, 14, 44, 53]) m0 m → (0 : Int) ≤ x1.toInt → x1.toInt ≤ (200 : Int) → (0 : Int) ≤ x4.toInt → x4.toInt ≤ (199 : Int) → (0 : Int) ≤ x5.toInt → x5.toInt ≤ (48 : Int) → (0 : Int) ≤ x6.toInt → x6.toInt ≤ (48 : Int) → (200 - x4.toInt) * 100 + 48 - x6.toInt < (n : Int) → AW ad E0 μX11_rounds (d + 7) (fun r m' => WT m' ∧ Fx (RS [2, 4, 6, 9, 14, 44, 53]) m0 m' ∧ ∃ v : Int32, r = some (.int v)) 64 [(0, .ref (ad 0)), (1, .int x1), (2, .int x2), (3, .int x3), (4, .int x4), (5, .int x5), (6, .int x6)] [] m) := by
  intro n
  induction n with
  | zero =>
    refine ⟨?_, ?_⟩ <;> intros <;> exfalso <;> omega
  | succ n ih =>
    refine ⟨?_, ?_⟩
    · intro m x1 x2 x3 x4 w f j1 j2 j3 j4 hn
      refine g_X11_rounds_30  ?_
      refine ⟨?_, ?_⟩
      · intro c1
        have k2 := z_le c1
        refine (s_X1_total w SS_21).to ?_
        rintro _ m1 ⟨w_m1, g3, v2, rfl⟩
        have f_m1 : Fx (RS [2, 4, 6, 9, 14, 44, 53]) m0 m1 := f.tr g3 (RS_sub rfl)
        refine ⟨v2, rfl, ?_⟩
        refine (s_X11_tell_ w_m1).to ?_
        rintro _ m3 ⟨w_m3, g4, rfl⟩
        have f_m3 : Fx (RS [2, 4, 6, 9, 14, 44, 53]) m0 m3 := f_m1.tr g4 (RS_sub rfl)
        refine ⟨rfl, ?_⟩
        exact ⟨w_m3, f_m3, _, rfl⟩
      · intro c5
        have k6 := z_nle c5
        obtain ⟨r4, e7, q8⟩ := w.r09
        refine ⟨r4, e7, Pl_of q8, ?_⟩
        refine (s_X3_begin w q8).to ?_
        rintro _ m5 ⟨w_m5, g9, v6, rfl, p10, p11⟩
        have f_m5 : Fx (RS [2, 4, 6, 9, 14, 44, 53]) m0 m5 := f.tr g9 (RS_sub rfl)
        refine ⟨v6, rfl, ?_⟩
        obtain ⟨r7, e12, q13⟩ := w_m5.r09
        refine ⟨r7, e12, Pl_of q13, ?_⟩
        refine (s_X3_begin w_m5 q13).to ?_
        rintro _ m8 ⟨w_m8, g14, v9, rfl, p15, p16⟩
        have f_m8 : Fx (RS [2, 4, 6, 9, 14, 44, 53]) m0 m8 := f_m5.tr g14 (RS_sub rfl)
        refine ⟨v9, rfl, ?_⟩
        exact ih.2 _ _ _ _ _ _ _ w_m8 f_m8 (by show (0 : Int) ≤ (x1).toInt; omega) (by show (x1).toInt ≤ (200 : Int); omega) (by show (0 : Int) ≤ (x4).toInt; omega) (by show (x4).toInt ≤ (199 : Int); omega) (by show (0 : Int) ≤ (v6).toInt; omega) (by show (v6).toInt ≤ (48 : Int); omega) (by show (0 : Int) ≤ (v9).toInt; omega) (by show (v9).toInt ≤ (48 : Int); omega) (by show (200 - (x4).toInt) * 100 + 48 - (v9).toInt < _; omega)
    · intro m x1 x2 x3 x4 x5 x6 w f j1 j2 j3 j4 j5 j6 j7 j8 hn
      refine g_X11_rounds_64  ?_
      refine ⟨?_, ?_⟩
      · intro c1
        have k2 := z_le c1
        obtain ⟨r1, e3, q4⟩ := w.r09
        refine ⟨r1, e3, Pl_of q4, ?_⟩
        refine (s_X3_after w q4).to ?_
        rintro _ m2 ⟨w_m2, g5, v3, rfl⟩
        have f_m2 : Fx (RS [2, 4, 6, 9, 14, 44, 53]) m0 m2 := f.tr g5 (RS_sub rfl)
        refine ⟨v3, rfl, ?_⟩
        have w6 : WT (uI m2 0 11 v3) := w_m2.n rfl
        have f6 : Fx (RS [2, 4, 6, 9, 14, 44, 53]) m0 (uI m2 0 11 v3) := f_m2.i rfl
        have t7 := ti_addc (x := x4) (y := (1 : Int32)) (c := 1) rfl (by omega)
        exact ih.1 _ _ _ _ _ w6 f6 (by show (0 : Int) ≤ (x1).toInt; omega) (by show (x1).toInt ≤ (200 : Int); omega) (by show (0 : Int) ≤ ((x4 + (1 : Int32))).toInt; omega) (by show ((x4 + (1 : Int32))).toInt ≤ (200 : Int); omega) (by show (200 - ((x4 + (1 : Int32))).toInt) * 100 + 60 < _; omega)
      · intro c8
        have k9 := z_nle c8
        obtain ⟨r4, e10, q11⟩ := w.r09
        refine ⟨r4, e10, Pl_of q11, ?_⟩
        refine ⟨?_, ?_⟩
        · exact vpi (by omega) (by omega)
        · refine ⟨r4, e10, Pl_of q11, ?_⟩
          refine ⟨?_, ?_⟩
          · exact vpi (by omega) (by omega)
          · refine ⟨r4, e10, Pl_of q11, ?_⟩
            refine ⟨?_, ?_⟩
            · exact vpi (by omega) (by omega)
            · have r12 := w.plj (j := 1) (k := x6.toNatClampNeg) q11 rfl rfl
              have r13 := w.plj (j := 2) (k := x6.toNatClampNeg) q11 rfl rfl
              refine (s_X11_playNow w (by show (0 : Int) ≤ ((m.1 (r4 + 1) x6.toNatClampNeg)).toInt; omega) (by show ((m.1 (r4 + 1) x6.toNatClampNeg)).toInt ≤ (7 : Int); omega) (by show (0 : Int) ≤ ((m.1 (r4 + 2) x6.toNatClampNeg)).toInt; omega) (by show ((m.1 (r4 + 2) x6.toNatClampNeg)).toInt ≤ (7 : Int); omega)).to ?_
              rintro _ m7 ⟨w_m7, g14, v8, rfl, p15, p16⟩
              have f_m7 : Fx (RS [2, 4, 6, 9, 14, 44, 53]) m0 m7 := f.tr g14 (RS_sub rfl)
              refine ⟨v8, rfl, ?_⟩
              refine ⟨?_, ?_⟩
              · intro c17
                have k18 := y_ner (n := 2) rfl c17
                have t19 := ti_addc (x := x6) (y := (1 : Int32)) (c := 1) rfl (by omega)
                exact ih.2 _ _ _ _ _ _ _ w_m7 f_m7 (by show (0 : Int) ≤ (x1).toInt; omega) (by show (x1).toInt ≤ (200 : Int); omega) (by show (0 : Int) ≤ (x4).toInt; omega) (by show (x4).toInt ≤ (199 : Int); omega) (by show (0 : Int) ≤ (x5).toInt; omega) (by show (x5).toInt ≤ (48 : Int); omega) (by show (0 : Int) ≤ ((x6 + (1 : Int32))).toInt; omega) (by show ((x6 + (1 : Int32))).toInt ≤ (48 : Int); omega) (by show (200 - (x4).toInt) * 100 + 48 - ((x6 + (1 : Int32))).toInt < _; omega)
              · intro c20
                have k21 := y_eqr (n := 2) rfl c20
                have t22 := ti_addc (x := x6) (y := (1 : Int32)) (c := 1) rfl (by omega)
                exact ih.2 _ _ _ _ _ _ _ w_m7 f_m7 (by show (0 : Int) ≤ (x1).toInt; omega) (by show (x1).toInt ≤ (200 : Int); omega) (by show (0 : Int) ≤ (x4).toInt; omega) (by show (x4).toInt ≤ (199 : Int); omega) (by show (0 : Int) ≤ (x5).toInt; omega) (by show (x5).toInt ≤ (48 : Int); omega) (by show (0 : Int) ≤ ((x6 + (1 : Int32))).toInt; omega) (by show ((x6 + (1 : Int32))).toInt ≤ (48 : Int); omega) (by show (200 - (x4).toInt) * 100 + 48 - ((x6 + (1 : Int32))).toInt < _; omega)
set_option maxHeartbeats 4000000 in
theorem s_X11_rounds {ad : Nat → Nat} {d : Nat} {m : Wm} {x1 : Int32} (w : WT m) : Ct ad μX11_rounds (d + 7) [.ref (ad 0), .int x1] m (fun r m' => WT m' ∧ Fx (RS [2, 4, 6, 9, 14, 44, 53]) m m' ∧ ∃ v : Int32, r = some (.int v)) := by
  have f : Fx (RS [2, 4, 6, 9, 14, 44, 53]) m m := Fx.rf
  refine v_X11_rounds  ?_
  refine ⟨?_, ?_⟩
  · intro c1
    have k2 := y_ltr (n := 0) rfl c1
    exact ⟨w, f, _, rfl⟩
  · intro c3
    have k4 := y_nltr (n := 0) rfl c3
    refine ⟨?_, ?_⟩
    · intro c5
      have k6 := y_ltl (n := 200) rfl c5
      exact ⟨w, f, _, rfl⟩
    · intro c7
      have k8 := y_nltl (n := 200) rfl c7
      obtain ⟨r1, e9, q10⟩ := w.r09
      refine ⟨r1, e9, Pl_of q10, ?_⟩
      refine ⟨?_, ?_⟩
      · intro c11
        have r12 := w.pl (k := 5) q10 rfl rfl
        have k13 := y_ner (n := 0) rfl c11
        exact (l_X11_rounds (m0 := m) 1000000).1 _ _ _ _ _ w f (by show (0 : Int) ≤ (x1).toInt; omega) (by show (x1).toInt ≤ (200 : Int); omega) (by show (0 : Int) ≤ (0 : Int); omega) (by show (0 : Int) ≤ (200 : Int); omega) (by show (200 - (0 : Int)) * 100 + 60 < _; omega)
      · intro c14
        have r15 := w.pl (k := 5) q10 rfl rfl
        have k16 := y_eqr (n := 0) rfl c14
        exact ⟨w, f, _, rfl⟩
