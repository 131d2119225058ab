section
/-! SAFETY OF THE CLASS, BY PROGRAM (X4_canEnd .. X4_enter) -/
set_option maxHeartbeats 4000000 in
theorem s_X4_canEnd {ad : Nat → Nat} {d : Nat} {m : Wm} (w : WT m) : Ct ad μX4_canEnd d [.ref (ad 15)] m (fun r m' => WT m' ∧ Fx (RS []) m m' ∧ ∃ v : Int32, r = some (.int v) ∧ (0 : Int) ≤ v.toInt ∧ v.toInt ≤ 1) := by
  have f : Fx (RS []) m m := Fx.rf
  refine v_X4_canEnd  ?_
  refine ⟨?_, ?_⟩
  · intro c1
    have k2 := y_eqr (n := 3) rfl c1
    exact ⟨w, f, _, rfl, (by show (0 : Int) ≤ (1 : Int); omega), (by show (1 : Int) ≤ (1 : Int); omega)⟩
  · intro c3
    have k4 := y_ner (n := 3) rfl c3
    refine ⟨?_, ?_⟩
    · intro c5
      have k6 := y_ner (n := 2) rfl c5
      exact ⟨w, f, _, rfl, (by show (0 : Int) ≤ (0 : Int); omega), (by show (0 : Int) ≤ (1 : Int); omega)⟩
    · intro c7
      have k8 := y_eqr (n := 2) rfl c7
      refine ⟨?_, ?_⟩
      · intro c9
        have r10 := w.at (a := 15) (k := 2) rfl
        have k11 := z_ne c9
        exact ⟨w, f, _, rfl, (by show (0 : Int) ≤ (0 : Int); omega), (by show (0 : Int) ≤ (1 : Int); omega)⟩
      · intro c12
        have r13 := w.at (a := 15) (k := 2) rfl
        have k14 := z_eq c12
        exact ⟨w, f, _, rfl, (by show (0 : Int) ≤ (1 : Int); omega), (by show (1 : Int) ≤ (1 : Int); omega)⟩
set_option maxHeartbeats 4000000 in
theorem s_X4_takeSkill {ad : Nat → Nat} {d : Nat} {m : Wm} {x1 : Int32} (w : WT m) : Ct ad μX4_takeSkill (d + 1) [.ref (ad 15), .int x1] m (fun r m' => WT m' ∧ Fx (RS [3]) m m' ∧ ∃ v : Int32, r = some (.int v) ∧ (0 : Int) ≤ v.toInt ∧ v.toInt ≤ 1) := by
  have f : Fx (RS [3]) m m := Fx.rf
  refine v_X4_takeSkill  ?_
  refine ⟨?_, ?_⟩
  · intro c1
    have k2 := y_ltr (n := 0) rfl c1
    exact ⟨w, f, _, rfl, (by show (0 : Int) ≤ (0 : Int); omega), (by show (0 : Int) ≤ (1 : Int); omega)⟩
  · intro c3
    have k4 := y_nltr (n := 0) rfl c3
    refine ⟨?_, ?_⟩
    · intro c5
      have k6 := y_ler (n := 7) rfl c5
      refine (s_X8_putSkill w SS_16).to ?_
      rintro _ m1 ⟨w_m1, g7, rfl⟩
      have f_m1 : Fx (RS [3]) m m1 := f.tr g7 (RS_sub rfl)
      refine ⟨rfl, ?_⟩
      have w8 : WT (uI m1 15 5 ((m1.1 15 5) + (1 : Int32))) := w_m1.n rfl
      have f8 : Fx (RS [3]) m (uI m1 15 5 ((m1.1 15 5) + (1 : Int32))) := f_m1.i rfl
      exact ⟨w8, f8, _, rfl, (by show (0 : Int) ≤ (1 : Int); omega), (by show (1 : Int) ≤ (1 : Int); omega)⟩
    · intro c9
      have k10 := y_nler (n := 7) rfl c9
      exact ⟨w, f, _, rfl, (by show (0 : Int) ≤ (0 : Int); omega), (by show (0 : Int) ≤ (1 : Int); omega)⟩
set_option maxHeartbeats 4000000 in
theorem s_X4_takeIll {ad : Nat → Nat} {d : Nat} {m : Wm} {x1 : Int32} (w : WT m) : Ct ad μX4_takeIll d [.ref (ad 15), .int x1] m (fun r m' => WT m' ∧ Fx (RS [3]) m m' ∧ ∃ v : Int32, r = some (.int v) ∧ (0 : Int) ≤ v.toInt ∧ v.toInt ≤ 1) := by
  have f : Fx (RS [3]) m m := Fx.rf
  refine v_X4_takeIll  ?_
  refine ⟨?_, ?_⟩
  · intro c1
    have k2 := y_ner (n := 33) rfl c1
    exact ⟨w, f, _, rfl, (by show (0 : Int) ≤ (0 : Int); omega), (by show (0 : Int) ≤ (1 : Int); omega)⟩
  · intro c3
    have k4 := y_eqr (n := 33) rfl c3
    refine ⟨?_, ?_⟩
    · intro c5
      have r6 := w.at (a := 15) (k := 1) rfl
      have k7 := y_ner (n := 0) rfl c5
      have w8 : WT (uI m 15 3 ((m.1 15 3) ||| ((1 : Int32) <<< (((m.1 15 1) - (1 : Int32)) &&& 31)))) := w.n rfl
      have f8 : Fx (RS [3]) m (uI m 15 3 ((m.1 15 3) ||| ((1 : Int32) <<< (((m.1 15 1) - (1 : Int32)) &&& 31)))) := f.i rfl
      have w9 : WT (uI (uI m 15 3 ((m.1 15 3) ||| ((1 : Int32) <<< (((m.1 15 1) - (1 : Int32)) &&& 31)))) 15 6 (3 : Int32)) := w8.n rfl
      have f9 : Fx (RS [3]) m (uI (uI m 15 3 ((m.1 15 3) ||| ((1 : Int32) <<< (((m.1 15 1) - (1 : Int32)) &&& 31)))) 15 6 (3 : Int32)) := f8.i rfl
      exact ⟨w9, f9, _, rfl, (by show (0 : Int) ≤ (1 : Int); omega), (by show (1 : Int) ≤ (1 : Int); omega)⟩
    · intro c10
      have r11 := w.at (a := 15) (k := 1) rfl
      have k12 := y_eqr (n := 0) rfl c10
      exact ⟨w, f, _, rfl, (by show (0 : Int) ≤ (0 : Int); omega), (by show (0 : Int) ≤ (1 : Int); omega)⟩
set_option maxHeartbeats 4000000 in
theorem l_X4_takeArts {ad : Nat → Nat} {d : Nat} {m0 : Wm}  : ∀ n : Nat, (∀ (m : Wm) (x1 x2 : Int32), WT m → Fx (RS [3]) m0 m → (1 : Int) ≤ x1.toInt → x1.toInt ≤ (4 : Int) → (0 : Int) ≤ x2.toInt → x2.toInt ≤ (8 : Int) → 8 - x2.toInt < (n : Int) → AW ad E0 μX4_takeArts (d + 2) (fun r m' => WT m' ∧ Fx (RS [3]) m0 m' ∧ ∃ v : Int32, r = some (.int v) ∧ (0 : Int) ≤ v.toInt ∧ v.toInt ≤ 1) 14 [(0, .ref (ad 15)), (1, .int x1), (2, .int x2)] [] m) := by
  intro n
  induction n with
  | zero =>
    intros
    exfalso
    omega
  | succ n ih =>
    intro m x1 x2 w f j1 j2 j3 j4 hn
    refine g_X4_takeArts_14  ?_
    refine ⟨?_, ?_⟩
    · intro c1
      have k2 := y_lel (n := 8) rfl c1
      have w3 : WT (uI m 15 3 (0 : Int32)) := w.n rfl
      have f3 : Fx (RS [3]) m0 (uI m 15 3 (0 : Int32)) := f.i rfl
      have w4 : WT (uI (uI m 15 3 (0 : Int32)) 15 1 (0 : Int32)) := w3.t rfl (by show (0 : Int) ≤ (0 : Int); omega) (by show (0 : Int) ≤ 8; omega)
      have f4 : Fx (RS [3]) m0 (uI (uI m 15 3 (0 : Int32)) 15 1 (0 : Int32)) := f3.i rfl
      have w5 : WT (uI (uI (uI m 15 3 (0 : Int32)) 15 1 (0 : Int32)) 15 2 x1) := w4.t rfl (by show (0 : Int) ≤ (x1).toInt; omega) (by show (x1).toInt ≤ 4; omega)
      have f5 : Fx (RS [3]) m0 (uI (uI (uI m 15 3 (0 : Int32)) 15 1 (0 : Int32)) 15 2 x1) := f4.i rfl
      have w6 : WT (uI (uI (uI (uI m 15 3 (0 : Int32)) 15 1 (0 : Int32)) 15 2 x1) 15 7 (1 : Int32)) := w5.n rfl
      have f6 : Fx (RS [3]) m0 (uI (uI (uI (uI m 15 3 (0 : Int32)) 15 1 (0 : Int32)) 15 2 x1) 15 7 (1 : Int32)) := f5.i rfl
      have w7 : WT (uI (uI (uI (uI (uI m 15 3 (0 : Int32)) 15 1 (0 : Int32)) 15 2 x1) 15 7 (1 : Int32)) 15 6 (3 : Int32)) := w6.n rfl
      have f7 : Fx (RS [3]) m0 (uI (uI (uI (uI (uI m 15 3 (0 : Int32)) 15 1 (0 : Int32)) 15 2 x1) 15 7 (1 : Int32)) 15 6 (3 : Int32)) := f6.i rfl
      exact ⟨w7, f7, _, rfl, (by show (0 : Int) ≤ (1 : Int); omega), (by show (1 : Int) ≤ (1 : Int); omega)⟩
    · intro c8
      have k9 := y_nlel (n := 8) rfl c8
      refine (s_X8_clearSide w SS_16 (by show (0 : Int) ≤ (x2).toInt; omega) (by show (x2).toInt ≤ (7 : Int); omega)).to ?_
      rintro _ m1 ⟨w_m1, g10, rfl⟩
      have f_m1 : Fx (RS [3]) m0 m1 := f.tr g10 (RS_sub rfl)
      refine ⟨rfl, ?_⟩
      have t11 := ti_addc (x := x2) (y := (1 : Int32)) (c := 1) rfl (by omega)
      exact ih _ _ _ w_m1 f_m1 (by show (1 : Int) ≤ (x1).toInt; omega) (by show (x1).toInt ≤ (4 : Int); omega) (by show (0 : Int) ≤ ((x2 + (1 : Int32))).toInt; omega) (by show ((x2 + (1 : Int32))).toInt ≤ (8 : Int); omega) (by show 8 - ((x2 + (1 : Int32))).toInt < _; omega)
set_option maxHeartbeats 4000000 in
theorem s_X4_takeArts {ad : Nat → Nat} {d : Nat} {m : Wm} {x1 : Int32} (w : WT m) : Ct ad μX4_takeArts (d + 2) [.ref (ad 15), .int x1] m (fun r m' => WT m' ∧ Fx (RS [3]) m m' ∧ ∃ v : Int32, r = some (.int v) ∧ (0 : Int) ≤ v.toInt ∧ v.toInt ≤ 1) := by
  have f : Fx (RS [3]) m m := Fx.rf
  refine v_X4_takeArts  ?_
  refine ⟨?_, ?_⟩
  · intro c1
    have k2 := y_ltr (n := 1) rfl c1
    exact ⟨w, f, _, rfl, (by show (0 : Int) ≤ (0 : Int); omega), (by show (0 : Int) ≤ (1 : Int); omega)⟩
  · intro c3
    have k4 := y_nltr (n := 1) rfl c3
    refine ⟨?_, ?_⟩
    · intro c5
      have k6 := y_ler (n := 4) rfl c5
      exact (l_X4_takeArts (m0 := m) 1000000) _ _ _ w f (by show (1 : Int) ≤ (x1).toInt; omega) (by show (x1).toInt ≤ (4 : Int); omega) (by show (0 : Int) ≤ (0 : Int); omega) (by show (0 : Int) ≤ (8 : Int); omega) (by show 8 - (0 : Int) < _; omega)
    · intro c7
      have k8 := y_nler (n := 4) rfl c7
      exact ⟨w, f, _, rfl, (by show (0 : Int) ≤ (0 : Int); omega), (by show (0 : Int) ≤ (1 : Int); omega)⟩
set_option maxHeartbeats 4000000 in
theorem s_X4_takeLine {ad : Nat → Nat} {d : Nat} {m : Wm} {x1 : Int32} (w : WT m) : Ct ad μX4_takeLine (d + 2) [.ref (ad 15), .int x1] m (fun r m' => WT m' ∧ Fx (RS [3]) m m' ∧ ∃ v : Int32, r = some (.int v) ∧ (0 : Int) ≤ v.toInt ∧ v.toInt ≤ 1) := by
  have f : Fx (RS [3]) m m := Fx.rf
  refine v_X4_takeLine  ?_
  refine ⟨?_, ?_⟩
  · intro c1
    have k2 := y_ner (n := 119) rfl c1
    refine ⟨?_, ?_⟩
    · intro c3
      have r4 := w.at (a := 15) (k := 1) rfl
      have c5 : (m.1 15 1) < (8 : Int32) := c3
      have k6 := y_ltr (n := 8) rfl c5
      have w7 : WT (uI m 15 4 ((m.1 15 4) + (1 : Int32))) := w.n rfl
      have f7 : Fx (RS [3]) m (uI m 15 4 ((m.1 15 4) + (1 : Int32))) := f.i rfl
      have t9 := ti_addc (x := (m.1 15 1)) (y := (1 : Int32)) (c := 1) rfl (by omega)
      have w8 : WT (uI (uI m 15 4 ((m.1 15 4) + (1 : Int32))) 15 1 (((uI m 15 4 ((m.1 15 4) + (1 : Int32))).1 15 1) + (1 : Int32))) := w7.t rfl (by show (0 : Int) ≤ (((m.1 15 1) + (1 : Int32))).toInt; omega) (by show (((m.1 15 1) + (1 : Int32))).toInt ≤ 8; omega)
      have f8 : Fx (RS [3]) m (uI (uI m 15 4 ((m.1 15 4) + (1 : Int32))) 15 1 (((uI m 15 4 ((m.1 15 4) + (1 : Int32))).1 15 1) + (1 : Int32))) := f7.i rfl
      have w10 : WT (uI (uI (uI m 15 4 ((m.1 15 4) + (1 : Int32))) 15 1 (((uI m 15 4 ((m.1 15 4) + (1 : Int32))).1 15 1) + (1 : Int32))) 15 5 (0 : Int32)) := w8.n rfl
      have f10 : Fx (RS [3]) m (uI (uI (uI m 15 4 ((m.1 15 4) + (1 : Int32))) 15 1 (((uI m 15 4 ((m.1 15 4) + (1 : Int32))).1 15 1) + (1 : Int32))) 15 5 (0 : Int32)) := f8.i rfl
      have t11 := ti_subc (x := ((m.1 15 1) + (1 : Int32))) (y := (1 : Int32)) (c := 1) rfl (by omega)
      refine (s_X8_clearSide w10 SS_16 (by show (0 : Int) ≤ ((((m.1 15 1) + (1 : Int32)) - (1 : Int32))).toInt; omega) (by show ((((m.1 15 1) + (1 : Int32)) - (1 : Int32))).toInt ≤ (7 : Int); omega)).to ?_
      rintro _ m1 ⟨w_m1, g12, rfl⟩
      have f_m1 : Fx (RS [3]) m m1 := f10.tr g12 (RS_sub rfl)
      refine ⟨rfl, ?_⟩
      have w13 : WT (uI m1 15 6 (2 : Int32)) := w_m1.n rfl
      have f13 : Fx (RS [3]) m (uI m1 15 6 (2 : Int32)) := f_m1.i rfl
      refine (s_X4_takeSkill w13).to ?_
      rintro _ m2 ⟨w_m2, g14, v3, rfl, p15, p16⟩
      have f_m2 : Fx (RS [3]) m m2 := f13.tr g14 (RS_sub rfl)
      refine ⟨v3, rfl, ?_⟩
      refine ⟨?_, ?_⟩
      · exact bz_of (by omega) (by omega)
      · exact ⟨w_m2, f_m2, _, rfl, (by show (0 : Int) ≤ (v3).toInt; omega), (by show (v3).toInt ≤ (1 : Int); omega)⟩
    · intro c17
      have r18 := w.at (a := 15) (k := 1) rfl
      have c19 : ¬ (m.1 15 1) < (8 : Int32) := c17
      have k20 := y_nltr (n := 8) rfl c19
      have w21 : WT (uI m 15 4 ((m.1 15 4) + (1 : Int32))) := w.n rfl
      have f21 : Fx (RS [3]) m (uI m 15 4 ((m.1 15 4) + (1 : Int32))) := f.i rfl
      exact ⟨w21, f21, _, rfl, (by show (0 : Int) ≤ (0 : Int); omega), (by show (0 : Int) ≤ (1 : Int); omega)⟩
  · intro c22
    have k23 := y_eqr (n := 119) rfl c22
    have w24 : WT (uI m 15 4 ((m.1 15 4) + (1 : Int32))) := w.n rfl
    have f24 : Fx (RS [3]) m (uI m 15 4 ((m.1 15 4) + (1 : Int32))) := f.i rfl
    have w25 : WT (uI (uI m 15 4 ((m.1 15 4) + (1 : Int32))) 15 6 (1 : Int32)) := w24.n rfl
    have f25 : Fx (RS [3]) m (uI (uI m 15 4 ((m.1 15 4) + (1 : Int32))) 15 6 (1 : Int32)) := f24.i rfl
    exact ⟨w25, f25, _, rfl, (by show (0 : Int) ≤ (1 : Int); omega), (by show (1 : Int) ≤ (1 : Int); omega)⟩
set_option maxHeartbeats 4000000 in
theorem l_X4_take {ad : Nat → Nat} {d : Nat} {m0 : Wm}  : ∀ n : Nat, (∀ (m : Wm) (x1 : Int32), WT m → Fx (RS [3]) m0 m → 0 * x1.toInt < (n : Int) → AW ad E0 μX4_take (d + 3) (fun r m' => WT m' ∧ Fx (RS [3]) m0 m' ∧ ∃ v : Int32, r = some (.int v) ∧ (0 : Int) ≤ v.toInt ∧ v.toInt ≤ 1) 20 [(0, .ref (ad 15)), (1, .int x1)] [] m) := by
  intro n
  induction n with
  | zero =>
    intros
    exfalso
    omega
  | succ n ih =>
    intro m x1 w f  hn
    refine g_X4_take_20  ?_
    refine ⟨?_, ?_, ?_, ?_⟩
    · intro c1
      have k2 := y_eqr (n := 0) rfl c1
      refine (s_X4_takeLine w).to ?_
      rintro _ m1 ⟨w_m1, g3, v2, rfl, p4, p5⟩
      have f_m1 : Fx (RS [3]) m0 m1 := f.tr g3 (RS_sub rfl)
      refine ⟨v2, rfl, ?_⟩
      refine ⟨?_, ?_⟩
      · exact bz_of (by omega) (by omega)
      · exact ⟨w_m1, f_m1, _, rfl, (by show (0 : Int) ≤ (v2).toInt; omega), (by show (v2).toInt ≤ (1 : Int); omega)⟩
    · intro c6
      have k7 := y_eqr (n := 1) rfl c6
      refine (s_X4_takeArts w).to ?_
      rintro _ m3 ⟨w_m3, g8, v4, rfl, p9, p10⟩
      have f_m3 : Fx (RS [3]) m0 m3 := f.tr g8 (RS_sub rfl)
      refine ⟨v4, rfl, ?_⟩
      refine ⟨?_, ?_⟩
      · exact bz_of (by omega) (by omega)
      · exact ⟨w_m3, f_m3, _, rfl, (by show (0 : Int) ≤ (v4).toInt; omega), (by show (v4).toInt ≤ (1 : Int); omega)⟩
    · intro c11
      have k12 := y_eqr (n := 2) rfl c11
      refine ⟨?_, ?_⟩
      · intro c13
        have r14 := w.at (a := 15) (k := 2) rfl
        have k15 := z_le c13
        refine (s_X4_takeIll w).to ?_
        rintro _ m5 ⟨w_m5, g16, v6, rfl, p17, p18⟩
        have f_m5 : Fx (RS [3]) m0 m5 := f.tr g16 (RS_sub rfl)
        refine ⟨v6, rfl, ?_⟩
        refine ⟨?_, ?_⟩
        · exact bz_of (by omega) (by omega)
        · exact ⟨w_m5, f_m5, _, rfl, (by show (0 : Int) ≤ (v6).toInt; omega), (by show (v6).toInt ≤ (1 : Int); omega)⟩
      · intro c19
        have r20 := w.at (a := 15) (k := 2) rfl
        have k21 := z_nle c19
        refine (s_X4_takeSkill w).to ?_
        rintro _ m7 ⟨w_m7, g22, v8, rfl, p23, p24⟩
        have f_m7 : Fx (RS [3]) m0 m7 := f.tr g22 (RS_sub rfl)
        refine ⟨v8, rfl, ?_⟩
        refine ⟨?_, ?_⟩
        · exact bz_of (by omega) (by omega)
        · exact ⟨w_m7, f_m7, _, rfl, (by show (0 : Int) ≤ (v8).toInt; omega), (by show (v8).toInt ≤ (1 : Int); omega)⟩
    · intro c25
      have k26 := y_ner (n := 0) rfl c25
      intro c27
      have k28 := y_ner (n := 1) rfl c27
      intro c29
      have k30 := y_ner (n := 2) rfl c29
      exact ⟨w, f, _, rfl, (by show (0 : Int) ≤ (0 : Int); omega), (by show (0 : Int) ≤ (1 : Int); omega)⟩
set_option maxHeartbeats 4000000 in
theorem s_X4_take {ad : Nat → Nat} {d : Nat} {m : Wm} {x1 : Int32} (w : WT m) : Ct ad μX4_take (d + 3) [.ref (ad 15), .int x1] m (fun r m' => WT m' ∧ Fx (RS [3]) m m' ∧ ∃ v : Int32, r = some (.int v) ∧ (0 : Int) ≤ v.toInt ∧ v.toInt ≤ 1) := by
  have f : Fx (RS [3]) m m := Fx.rf
  refine v_X4_take  ?_
  refine ⟨?_, ?_⟩
  · intro c1
    have k2 := y_ner (n := 59) rfl c1
    exact (l_X4_take (m0 := m) 1000000) _ _ w f (by show 0 * (x1).toInt < _; omega)
  · intro c3
    have k4 := y_eqr (n := 59) rfl c3
    refine (s_X4_canEnd w).to ?_
    rintro _ m1 ⟨w_m1, g5, v2, rfl, p6, p7⟩
    have f_m1 : Fx (RS [3]) m m1 := f.tr g5 (RS_sub rfl)
    refine ⟨v2, rfl, ?_⟩
    refine ⟨?_, ?_⟩
    · intro c8
      have k9 := y_eqr (n := 0) rfl c8
      exact (l_X4_take (m0 := m) 1000000) _ _ w_m1 f_m1 (by show 0 * (x1).toInt < _; omega)
    · intro c10
      have k11 := y_ner (n := 0) rfl c10
      have w12 : WT (uI m1 15 6 (0 : Int32)) := w_m1.n rfl
      have f12 : Fx (RS [3]) m (uI m1 15 6 (0 : Int32)) := f_m1.i rfl
      exact ⟨w12, f12, _, rfl, (by show (0 : Int) ≤ (1 : Int); omega), (by show (1 : Int) ≤ (1 : Int); omega)⟩
set_option maxHeartbeats 4000000 in
theorem l_X4_read {ad : Nat → Nat} {d : Nat} {m0 : Wm}  : ∀ n : Nat, (∀ (m : Wm) (x4 x5 : Int32), WT m → Fx (RS [3]) m0 m → (0 : Int) ≤ x4.toInt → x4.toInt ≤ (76 : Int) → (0 : Int) ≤ x5.toInt → x5.toInt ≤ (80 : Int) → 80 - x5.toInt < (n : Int) → AW ad E0 μX4_read (d + 4) (fun r m' => WT m' ∧ Fx (RS [3]) m0 m' ∧ ∃ v : Int32, r = some (.int v)) 61 [(0, .ref (ad 15)), (1, .ref (ad 1)), (4, .int x4), (5, .int x5)] [] m) := by
  intro n
  induction n with
  | zero =>
    intros
    exfalso
    omega
  | succ n ih =>
    intro m x4 x5 w f j1 j2 j3 j4 hn
    refine g_X4_read_61  ?_
    refine ⟨?_, ?_⟩
    · intro c1
      have k2 := z_le c1
      refine ⟨?_, ?_⟩
      · intro c3
        have r4 := w.at (a := 1) (k := 1) rfl
        have k5 := y_ltl (n := 76) rfl c3
        exact ⟨w, f, _, rfl⟩
      · intro c6
        have r7 := w.at (a := 1) (k := 1) rfl
        have k8 := y_nltl (n := 76) rfl c6
        refine (s_X4_canEnd w).to ?_
        rintro _ m1 ⟨w_m1, g9, v2, rfl, p10, p11⟩
        have f_m1 : Fx (RS [3]) m0 m1 := f.tr g9 (RS_sub rfl)
        refine ⟨v2, rfl, ?_⟩
        refine ⟨?_, ?_⟩
        · intro c12
          have k13 := y_ner (n := 0) rfl c12
          exact ⟨w_m1, f_m1, _, rfl⟩
        · intro c14
          have k15 := y_eqr (n := 0) rfl c14
          exact ⟨w_m1, f_m1, _, rfl⟩
    · intro c16
      have k17 := z_nle c16
      refine ⟨?_, ?_⟩
      · exact vpi (by omega) (by omega)
      · refine (s_X4_take w).to ?_
        rintro _ m3 ⟨w_m3, g18, v4, rfl, p19, p20⟩
        have f_m3 : Fx (RS [3]) m0 m3 := f.tr g18 (RS_sub rfl)
        refine ⟨v4, rfl, ?_⟩
        refine ⟨?_, ?_⟩
        · intro c21
          have k22 := y_ner (n := 0) rfl c21
          have t23 := ti_addc (x := x5) (y := (1 : Int32)) (c := 1) rfl (by omega)
          exact ih _ _ _ w_m3 f_m3 (by show (0 : Int) ≤ (x4).toInt; omega) (by show (x4).toInt ≤ (76 : Int); omega) (by show (0 : Int) ≤ ((x5 + (1 : Int32))).toInt; omega) (by show ((x5 + (1 : Int32))).toInt ≤ (80 : Int); omega) (by show 80 - ((x5 + (1 : Int32))).toInt < _; omega)
        · intro c24
          have k25 := y_eqr (n := 0) rfl c24
          exact ⟨w_m3, f_m3, _, rfl⟩
set_option maxHeartbeats 4000000 in
theorem s_X4_read {ad : Nat → Nat} {d : Nat} {m : Wm} (w : WT m) : Ct ad μX4_read (d + 4) [.ref (ad 15), .ref (ad 1), .ref (ad 3), .ref (ad 21)] m (fun r m' => WT m' ∧ Fx (RS [3]) m m' ∧ ∃ v : Int32, r = some (.int v)) := by
  have f : Fx (RS [3]) m m := Fx.rf
  refine v_X4_read St_21 ?_
  refine (s_X8_copy w SS_16 SS_21).to ?_
  rintro _ m1 ⟨w_m1, g1, rfl⟩
  have f_m1 : Fx (RS [3]) m m1 := f.tr g1 (RS_sub rfl)
  refine ⟨rfl, ?_⟩
  have r3 := w_m1.at (a := 3) (k := 3) rfl
  have w2 : WT (uI m1 15 1 (m1.1 3 3)) := w_m1.t rfl (by show (0 : Int) ≤ ((m1.1 3 3)).toInt; omega) (by show ((m1.1 3 3)).toInt ≤ 8; omega)
  have f2 : Fx (RS [3]) m (uI m1 15 1 (m1.1 3 3)) := f_m1.i rfl
  have r5 := w_m1.at (a := 3) (k := 4) rfl
  have w4 : WT (uI (uI m1 15 1 (m1.1 3 3)) 15 2 ((uI m1 15 1 (m1.1 3 3)).1 3 4)) := w2.t rfl (by show (0 : Int) ≤ ((m1.1 3 4)).toInt; omega) (by show ((m1.1 3 4)).toInt ≤ 4; omega)
  have f4 : Fx (RS [3]) m (uI (uI m1 15 1 (m1.1 3 3)) 15 2 ((uI m1 15 1 (m1.1 3 3)).1 3 4)) := f2.i rfl
  have w6 : WT (uI (uI (uI m1 15 1 (m1.1 3 3)) 15 2 ((uI m1 15 1 (m1.1 3 3)).1 3 4)) 15 3 ((uI (uI m1 15 1 (m1.1 3 3)) 15 2 ((uI m1 15 1 (m1.1 3 3)).1 3 4)).1 3 5)) := w4.n rfl
  have f6 : Fx (RS [3]) m (uI (uI (uI m1 15 1 (m1.1 3 3)) 15 2 ((uI m1 15 1 (m1.1 3 3)).1 3 4)) 15 3 ((uI (uI m1 15 1 (m1.1 3 3)) 15 2 ((uI m1 15 1 (m1.1 3 3)).1 3 4)).1 3 5)) := f4.i rfl
  have w7 : WT (uI (uI (uI (uI m1 15 1 (m1.1 3 3)) 15 2 ((uI m1 15 1 (m1.1 3 3)).1 3 4)) 15 3 ((uI (uI m1 15 1 (m1.1 3 3)) 15 2 ((uI m1 15 1 (m1.1 3 3)).1 3 4)).1 3 5)) 15 4 (0 : Int32)) := w6.n rfl
  have f7 : Fx (RS [3]) m (uI (uI (uI (uI m1 15 1 (m1.1 3 3)) 15 2 ((uI m1 15 1 (m1.1 3 3)).1 3 4)) 15 3 ((uI (uI m1 15 1 (m1.1 3 3)) 15 2 ((uI m1 15 1 (m1.1 3 3)).1 3 4)).1 3 5)) 15 4 (0 : Int32)) := f6.i rfl
  have w8 : WT (uI (uI (uI (uI (uI m1 15 1 (m1.1 3 3)) 15 2 ((uI m1 15 1 (m1.1 3 3)).1 3 4)) 15 3 ((uI (uI m1 15 1 (m1.1 3 3)) 15 2 ((uI m1 15 1 (m1.1 3 3)).1 3 4)).1 3 5)) 15 4 (0 : Int32)) 15 6 (0 : Int32)) := w7.n rfl
  have f8 : Fx (RS [3]) m (uI (uI (uI (uI (uI m1 15 1 (m1.1 3 3)) 15 2 ((uI m1 15 1 (m1.1 3 3)).1 3 4)) 15 3 ((uI (uI m1 15 1 (m1.1 3 3)) 15 2 ((uI m1 15 1 (m1.1 3 3)).1 3 4)).1 3 5)) 15 4 (0 : Int32)) 15 6 (0 : Int32)) := f7.i rfl
  have w9 : WT (uI (uI (uI (uI (uI (uI m1 15 1 (m1.1 3 3)) 15 2 ((uI m1 15 1 (m1.1 3 3)).1 3 4)) 15 3 ((uI (uI m1 15 1 (m1.1 3 3)) 15 2 ((uI m1 15 1 (m1.1 3 3)).1 3 4)).1 3 5)) 15 4 (0 : Int32)) 15 6 (0 : Int32)) 15 7 (0 : Int32)) := w8.n rfl
  have f9 : Fx (RS [3]) m (uI (uI (uI (uI (uI (uI m1 15 1 (m1.1 3 3)) 15 2 ((uI m1 15 1 (m1.1 3 3)).1 3 4)) 15 3 ((uI (uI m1 15 1 (m1.1 3 3)) 15 2 ((uI m1 15 1 (m1.1 3 3)).1 3 4)).1 3 5)) 15 4 (0 : Int32)) 15 6 (0 : Int32)) 15 7 (0 : Int32)) := f8.i rfl
  have r10 := w_m1.at (a := 1) (k := 1) rfl
  have t11 := ti_ltv (a := (76 : Int32)) (b := (m1.1 1 1)) (c := (76 : Int32)) (d := (m1.1 1 1)) (A := (76)) (B := (m1.1 1 1).toInt) (C := (76)) (D := (m1.1 1 1).toInt) rfl rfl rfl rfl
  exact (l_X4_read (m0 := m) 1000000) _ _ _ w9 f9 (by show (0 : Int) ≤ ((if (76 : Int32) < (m1.1 1 1) then (76 : Int32) else (m1.1 1 1))).toInt; omega) (by show ((if (76 : Int32) < (m1.1 1 1) then (76 : Int32) else (m1.1 1 1))).toInt ≤ (76 : Int); omega) (by show (0 : Int) ≤ (0 : Int); omega) (by show (0 : Int) ≤ (80 : Int); omega) (by show 80 - (0 : Int) < _; omega)
set_option maxHeartbeats 4000000 in
theorem s_X4_enter {ad : Nat → Nat} {d : Nat} {m : Wm} (w : WT m) : Ct ad μX4_enter (d + 2) [.ref (ad 15), .ref (ad 3), .ref (ad 21)] m (fun r m' => WT m' ∧ Fx (RS [4, 41, 42]) m m' ∧ r = none) := by
  have f : Fx (RS [4, 41, 42]) m m := Fx.rf
  refine v_X4_enter St_21 ?_
  refine (s_X8_copy w SS_21 SS_16).to ?_
  rintro _ m1 ⟨w_m1, g1, rfl⟩
  have f_m1 : Fx (RS [4, 41, 42]) m m1 := f.tr g1 (RS_sub rfl)
  refine ⟨rfl, ?_⟩
  have r3 := w_m1.at (a := 15) (k := 1) rfl
  have w2 : WT (uI m1 3 3 (m1.1 15 1)) := w_m1.t rfl (by show (0 : Int) ≤ ((m1.1 15 1)).toInt; omega) (by show ((m1.1 15 1)).toInt ≤ 8; omega)
  have f2 : Fx (RS [4, 41, 42]) m (uI m1 3 3 (m1.1 15 1)) := f_m1.i rfl
  have r5 := w_m1.at (a := 15) (k := 2) rfl
  have w4 : WT (uI (uI m1 3 3 (m1.1 15 1)) 3 4 ((uI m1 3 3 (m1.1 15 1)).1 15 2)) := w2.t rfl (by show (0 : Int) ≤ ((m1.1 15 2)).toInt; omega) (by show ((m1.1 15 2)).toInt ≤ 4; omega)
  have f4 : Fx (RS [4, 41, 42]) m (uI (uI m1 3 3 (m1.1 15 1)) 3 4 ((uI m1 3 3 (m1.1 15 1)).1 15 2)) := f2.i rfl
  have w6 : WT (uI (uI (uI m1 3 3 (m1.1 15 1)) 3 4 ((uI m1 3 3 (m1.1 15 1)).1 15 2)) 3 5 ((uI (uI m1 3 3 (m1.1 15 1)) 3 4 ((uI m1 3 3 (m1.1 15 1)).1 15 2)).1 15 3)) := w4.n rfl
  have f6 : Fx (RS [4, 41, 42]) m (uI (uI (uI m1 3 3 (m1.1 15 1)) 3 4 ((uI m1 3 3 (m1.1 15 1)).1 15 2)) 3 5 ((uI (uI m1 3 3 (m1.1 15 1)) 3 4 ((uI m1 3 3 (m1.1 15 1)).1 15 2)).1 15 3)) := f4.i rfl
  exact ⟨w6, f6, rfl⟩
end
section
/-! SAFETY OF THE CLASS, BY PROGRAM (X5_emit .. X5_compile) -/
set_option maxHeartbeats 4000000 in
theorem s_X5_emit_5 {ad : Nat → Nat} {d : Nat} {m : Wm} {x1 : Int32} (w : WT m) : Ct ad μX5_emit d [.ref (ad 5), .int x1] m (fun r m' => WT m' ∧ Fx (RS [1]) m m' ∧ r = none ∧ ((m'.1 5 6).toInt = (m.1 5 6).toInt)) := by
  have f : Fx (RS [1]) m m := Fx.rf
  refine v_X5_emit Ru_5 ?_
  refine ⟨?_, ?_⟩
  · intro c1
    have r2 := w.at (a := 5) (k := 4) rfl
    have k3 := y_lel (n := 40) rfl c1
    have r4 := w.at (a := 5) (k := 6) rfl
    exact ⟨w, f, rfl, (by show ((m.1 5 6)).toInt = (m.1 5 6).toInt; omega)⟩
  · intro c5
    have r6 := w.at (a := 5) (k := 4) rfl
    have k7 := y_nlel (n := 40) rfl c5
    refine ⟨?_, ?_⟩
    · exact vpi (by omega) (by omega)
    · have w8 : WT (uI m (5 + 1) ((m.1 5 4).toNatClampNeg) x1) := w.n rfl
      have f8 : Fx (RS [1]) m (uI m (5 + 1) ((m.1 5 4).toNatClampNeg) x1) := f.i rfl
      have t10 := ti_addc (x := (m.1 5 4)) (y := (1 : Int32)) (c := 1) rfl (by omega)
      have w9 : WT (uI (uI m (5 + 1) ((m.1 5 4).toNatClampNeg) x1) 5 4 (((uI m (5 + 1) ((m.1 5 4).toNatClampNeg) x1).1 5 4) + (1 : Int32))) := w8.t rfl (by show (0 : Int) ≤ (((m.1 5 4) + (1 : Int32))).toInt; omega) (by show (((m.1 5 4) + (1 : Int32))).toInt ≤ 40; omega)
      have f9 : Fx (RS [1]) m (uI (uI m (5 + 1) ((m.1 5 4).toNatClampNeg) x1) 5 4 (((uI m (5 + 1) ((m.1 5 4).toNatClampNeg) x1).1 5 4) + (1 : Int32))) := f8.i rfl
      have r11 := w.at (a := 5) (k := 6) rfl
      exact ⟨w9, f9, rfl, (by show ((m.1 5 6)).toInt = (m.1 5 6).toInt; omega)⟩
set_option maxHeartbeats 4000000 in
theorem s_X5_emit_10 {ad : Nat → Nat} {d : Nat} {m : Wm} {x1 : Int32} (w : WT m) : Ct ad μX5_emit d [.ref (ad 10), .int x1] m (fun r m' => WT m' ∧ Fx (RS [1]) m m' ∧ r = none ∧ ((m'.1 10 6).toInt = (m.1 10 6).toInt)) := by
  have f : Fx (RS [1]) m m := Fx.rf
  refine v_X5_emit Ru_10 ?_
  refine ⟨?_, ?_⟩
  · intro c1
    have r2 := w.at (a := 10) (k := 4) rfl
    have k3 := y_lel (n := 40) rfl c1
    have r4 := w.at (a := 10) (k := 6) rfl
    exact ⟨w, f, rfl, (by show ((m.1 10 6)).toInt = (m.1 10 6).toInt; omega)⟩
  · intro c5
    have r6 := w.at (a := 10) (k := 4) rfl
    have k7 := y_nlel (n := 40) rfl c5
    refine ⟨?_, ?_⟩
    · exact vpi (by omega) (by omega)
    · have w8 : WT (uI m (10 + 1) ((m.1 10 4).toNatClampNeg) x1) := w.n rfl
      have f8 : Fx (RS [1]) m (uI m (10 + 1) ((m.1 10 4).toNatClampNeg) x1) := f.i rfl
      have t10 := ti_addc (x := (m.1 10 4)) (y := (1 : Int32)) (c := 1) rfl (by omega)
      have w9 : WT (uI (uI m (10 + 1) ((m.1 10 4).toNatClampNeg) x1) 10 4 (((uI m (10 + 1) ((m.1 10 4).toNatClampNeg) x1).1 10 4) + (1 : Int32))) := w8.t rfl (by show (0 : Int) ≤ (((m.1 10 4) + (1 : Int32))).toInt; omega) (by show (((m.1 10 4) + (1 : Int32))).toInt ≤ 40; omega)
      have f9 : Fx (RS [1]) m (uI (uI m (10 + 1) ((m.1 10 4).toNatClampNeg) x1) 10 4 (((uI m (10 + 1) ((m.1 10 4).toNatClampNeg) x1).1 10 4) + (1 : Int32))) := f8.i rfl
      have r11 := w.at (a := 10) (k := 6) rfl
      exact ⟨w9, f9, rfl, (by show ((m.1 10 6)).toInt = (m.1 10 6).toInt; omega)⟩
theorem s_X5_emit {ad : Nat → Nat} {d : Nat} {m : Wm} {b0 : Nat} {x1 : Int32} (w : WT m) (hb0 : b0 = 5 ∨ b0 = 10) : Ct ad μX5_emit d [.ref (ad b0), .int x1] m (fun r m' => WT m' ∧ Fx (RS [1]) m m' ∧ r = none ∧ ((m'.1 b0 6).toInt = (m.1 b0 6).toInt)) := by
  rcases hb0 with rfl | rfl
  · exact s_X5_emit_5 w
  · exact s_X5_emit_10 w
set_option maxHeartbeats 4000000 in
theorem s_X5_hold_5 {ad : Nat → Nat} {d : Nat} {m : Wm} {x1 : Int32} (w : WT m) : Ct ad μX5_hold d [.ref (ad 5), .int x1] m (fun r m' => WT m' ∧ Fx (RS [1]) m m' ∧ r = none) := by
  have f : Fx (RS [1]) m m := Fx.rf
  refine v_X5_hold Ru_5 ?_
  refine ⟨?_, ?_⟩
  · intro c1
    have r2 := w.at (a := 5) (k := 5) rfl
    have k3 := y_lel (n := 40) rfl c1
    exact ⟨w, f, rfl⟩
  · intro c4
    have r5 := w.at (a := 5) (k := 5) rfl
    have k6 := y_nlel (n := 40) rfl c4
    refine ⟨?_, ?_⟩
    · exact vpi (by omega) (by omega)
    · have w7 : WT (uI m (5 + 3) ((m.1 5 5).toNatClampNeg) x1) := w.n rfl
      have f7 : Fx (RS [1]) m (uI m (5 + 3) ((m.1 5 5).toNatClampNeg) x1) := f.i rfl
      have t9 := ti_addc (x := (m.1 5 5)) (y := (1 : Int32)) (c := 1) rfl (by omega)
      have w8 : WT (uI (uI m (5 + 3) ((m.1 5 5).toNatClampNeg) x1) 5 5 (((uI m (5 + 3) ((m.1 5 5).toNatClampNeg) x1).1 5 5) + (1 : Int32))) := w7.t rfl (by show (0 : Int) ≤ (((m.1 5 5) + (1 : Int32))).toInt; omega) (by show (((m.1 5 5) + (1 : Int32))).toInt ≤ 40; omega)
      have f8 : Fx (RS [1]) m (uI (uI m (5 + 3) ((m.1 5 5).toNatClampNeg) x1) 5 5 (((uI m (5 + 3) ((m.1 5 5).toNatClampNeg) x1).1 5 5) + (1 : Int32))) := f7.i rfl
      exact ⟨w8, f8, rfl⟩
set_option maxHeartbeats 4000000 in
theorem s_X5_hold_10 {ad : Nat → Nat} {d : Nat} {m : Wm} {x1 : Int32} (w : WT m) : Ct ad μX5_hold d [.ref (ad 10), .int x1] m (fun r m' => WT m' ∧ Fx (RS [1]) m m' ∧ r = none) := by
  have f : Fx (RS [1]) m m := Fx.rf
  refine v_X5_hold Ru_10 ?_
  refine ⟨?_, ?_⟩
  · intro c1
    have r2 := w.at (a := 10) (k := 5) rfl
    have k3 := y_lel (n := 40) rfl c1
    exact ⟨w, f, rfl⟩
  · intro c4
    have r5 := w.at (a := 10) (k := 5) rfl
    have k6 := y_nlel (n := 40) rfl c4
    refine ⟨?_, ?_⟩
    · exact vpi (by omega) (by omega)
    · have w7 : WT (uI m (10 + 3) ((m.1 10 5).toNatClampNeg) x1) := w.n rfl
      have f7 : Fx (RS [1]) m (uI m (10 + 3) ((m.1 10 5).toNatClampNeg) x1) := f.i rfl
      have t9 := ti_addc (x := (m.1 10 5)) (y := (1 : Int32)) (c := 1) rfl (by omega)
      have w8 : WT (uI (uI m (10 + 3) ((m.1 10 5).toNatClampNeg) x1) 10 5 (((uI m (10 + 3) ((m.1 10 5).toNatClampNeg) x1).1 10 5) + (1 : Int32))) := w7.t rfl (by show (0 : Int) ≤ (((m.1 10 5) + (1 : Int32))).toInt; omega) (by show (((m.1 10 5) + (1 : Int32))).toInt ≤ 40; omega)
      have f8 : Fx (RS [1]) m (uI (uI m (10 + 3) ((m.1 10 5).toNatClampNeg) x1) 10 5 (((uI m (10 + 3) ((m.1 10 5).toNatClampNeg) x1).1 10 5) + (1 : Int32))) := f7.i rfl
      exact ⟨w8, f8, rfl⟩
theorem s_X5_hold {ad : Nat → Nat} {d : Nat} {m : Wm} {b0 : Nat} {x1 : Int32} (w : WT m) (hb0 : b0 = 5 ∨ b0 = 10) : Ct ad μX5_hold d [.ref (ad b0), .int x1] m (fun r m' => WT m' ∧ Fx (RS [1]) m m' ∧ r = none) := by
  rcases hb0 with rfl | rfl
  · exact s_X5_hold_5 w
  · exact s_X5_hold_10 w
set_option maxHeartbeats 4000000 in
theorem l_X5_release_5 {ad : Nat → Nat} {d : Nat} {m0 : Wm}  : ∀ n : Nat, (∀ (m : Wm) (x1 x2 : Int32), WT m → Fx (RS [1]) m0 m → (-1 : Int) ≤ x2.toInt → x2.toInt ≤ (39 : Int) → ((m.1 5 6).toInt = (m0.1 5 6).toInt) → x2.toInt + 1 < (n : Int) → AW ad E0 μX5_release (d + 1) (fun r m' => WT m' ∧ Fx (RS [1]) m0 m' ∧ r = none ∧ ((m'.1 5 6).toInt = (m0.1 5 6).toInt)) 7 [(0, .ref (ad 5)), (1, .int x1), (2, .int x2)] [] m) := by
  intro n
  induction n with
  | zero =>
    intros
    exfalso
    omega
  | succ n ih =>
    intro m x1 x2 w f j1 j2 j3 hn
    refine g_X5_release_7 Ru_5 ?_
    refine ⟨?_, ?_⟩
    · intro c1
      have k2 := y_ltr (n := 0) rfl c1
      have r3 := w.at (a := 5) (k := 6) rfl
      exact ⟨w, f, rfl, (by show ((m.1 5 6)).toInt = (m0.1 5 6).toInt; omega)⟩
    · intro c4
      have k5 := y_nltr (n := 0) rfl c4
      refine ⟨?_, ?_⟩
      · exact vpi (by omega) (by omega)
      · refine (s_X5_rank w).to ?_
        rintro _ m1 ⟨w_m1, g6, v2, rfl, p7, p8⟩
        have f_m1 : Fx (RS [1]) m0 m1 := f.tr g6 (RS_sub rfl)
        have e9 : (m1.1 5 6).toInt = ((m.1 5 6)).toInt := congrArg _ (g6.at (a := 5) (k := 6) (by decide))
        refine ⟨v2, rfl, ?_⟩
        refine ⟨?_, ?_⟩
        · intro c10
          have k11 := z_le c10
          refine ⟨?_, ?_⟩
          · exact vpi (by omega) (by omega)
          · refine (s_X5_emit w_m1 (Or.inl rfl)).to ?_
            rintro _ m3 ⟨w_m3, g12, rfl, p13⟩
            have f_m3 : Fx (RS [1]) m0 m3 := f_m1.tr g12 (RS_sub rfl)
            have p14 : (m3.1 5 6).toInt = ((m1.1 5 6)).toInt := p13
            clear p13
            refine ⟨rfl, ?_⟩
            have w15 : WT (uI m3 5 5 x2) := w_m3.t rfl (by show (0 : Int) ≤ (x2).toInt; omega) (by show (x2).toInt ≤ 40; omega)
            have f15 : Fx (RS [1]) m0 (uI m3 5 5 x2) := f_m3.i rfl
            have t16 := ti_addc (x := x2) (y := (-1 : Int32)) (c := -1) rfl (by omega)
            have r17 := w_m3.at (a := 5) (k := 6) rfl
            exact ih _ _ _ w15 f15 (by show (-1 : Int) ≤ ((x2 + (-1 : Int32))).toInt; omega) (by show ((x2 + (-1 : Int32))).toInt ≤ (39 : Int); omega) (by show ((m3.1 5 6)).toInt = (m0.1 5 6).toInt; omega) (by show ((x2 + (-1 : Int32))).toInt + 1 < _; omega)
        · intro c18
          have k19 := z_nle c18
          have r20 := w_m1.at (a := 5) (k := 6) rfl
          exact ⟨w_m1, f_m1, rfl, (by show ((m1.1 5 6)).toInt = (m0.1 5 6).toInt; omega)⟩
set_option maxHeartbeats 4000000 in
theorem s_X5_release_5 {ad : Nat → Nat} {d : Nat} {m : Wm} {x1 : Int32} (w : WT m) : Ct ad μX5_release (d + 1) [.ref (ad 5), .int x1] m (fun r m' => WT m' ∧ Fx (RS [1]) m m' ∧ r = none ∧ ((m'.1 5 6).toInt = (m.1 5 6).toInt)) := by
  have f : Fx (RS [1]) m m := Fx.rf
  refine v_X5_release Ru_5 ?_
  have r1 := w.at (a := 5) (k := 5) rfl
  have t2 := ti_subc (x := (m.1 5 5)) (y := (1 : Int32)) (c := 1) rfl (by omega)
  have r3 := w.at (a := 5) (k := 6) rfl
  exact (l_X5_release_5 (m0 := m) 1000000) _ _ _ w f (by show (-1 : Int) ≤ (((m.1 5 5) - (1 : Int32))).toInt; omega) (by show (((m.1 5 5) - (1 : Int32))).toInt ≤ (39 : Int); omega) (by show ((m.1 5 6)).toInt = (m.1 5 6).toInt; omega) (by show (((m.1 5 5) - (1 : Int32))).toInt + 1 < _; omega)
set_option maxHeartbeats 4000000 in
theorem l_X5_release_10 {ad : Nat → Nat} {d : Nat} {m0 : Wm}  : ∀ n : Nat, (∀ (m : Wm) (x1 x2 : Int32), WT m → Fx (RS [1]) m0 m → (-1 : Int) ≤ x2.toInt → x2.toInt ≤ (39 : Int) → ((m.1 10 6).toInt = (m0.1 10 6).toInt) → x2.toInt + 1 < (n : Int) → AW ad E0 μX5_release (d + 1) (fun r m' => WT m' ∧ Fx (RS [1]) m0 m' ∧ r = none ∧ ((m'.1 10 6).toInt = (m0.1 10 6).toInt)) 7 [(0, .ref (ad 10)), (1, .int x1), (2, .int x2)] [] m) := by
  intro n
  induction n with
  | zero =>
    intros
    exfalso
    omega
  | succ n ih =>
    intro m x1 x2 w f j1 j2 j3 hn
    refine g_X5_release_7 Ru_10 ?_
    refine ⟨?_, ?_⟩
    · intro c1
      have k2 := y_ltr (n := 0) rfl c1
      have r3 := w.at (a := 10) (k := 6) rfl
      exact ⟨w, f, rfl, (by show ((m.1 10 6)).toInt = (m0.1 10 6).toInt; omega)⟩
    · intro c4
      have k5 := y_nltr (n := 0) rfl c4
      refine ⟨?_, ?_⟩
      · exact vpi (by omega) (by omega)
      · refine (s_X5_rank w).to ?_
        rintro _ m1 ⟨w_m1, g6, v2, rfl, p7, p8⟩
        have f_m1 : Fx (RS [1]) m0 m1 := f.tr g6 (RS_sub rfl)
        have e9 : (m1.1 10 6).toInt = ((m.1 10 6)).toInt := congrArg _ (g6.at (a := 10) (k := 6) (by decide))
        refine ⟨v2, rfl, ?_⟩
        refine ⟨?_, ?_⟩
        · intro c10
          have k11 := z_le c10
          refine ⟨?_, ?_⟩
          · exact vpi (by omega) (by omega)
          · refine (s_X5_emit w_m1 (Or.inr rfl)).to ?_
            rintro _ m3 ⟨w_m3, g12, rfl, p13⟩
            have f_m3 : Fx (RS [1]) m0 m3 := f_m1.tr g12 (RS_sub rfl)
            have p14 : (m3.1 10 6).toInt = ((m1.1 10 6)).toInt := p13
            clear p13
            refine ⟨rfl, ?_⟩
            have w15 : WT (uI m3 10 5 x2) := w_m3.t rfl (by show (0 : Int) ≤ (x2).toInt; omega) (by show (x2).toInt ≤ 40; omega)
            have f15 : Fx (RS [1]) m0 (uI m3 10 5 x2) := f_m3.i rfl
            have t16 := ti_addc (x := x2) (y := (-1 : Int32)) (c := -1) rfl (by omega)
            have r17 := w_m3.at (a := 10) (k := 6) rfl
            exact ih _ _ _ w15 f15 (by show (-1 : Int) ≤ ((x2 + (-1 : Int32))).toInt; omega) (by show ((x2 + (-1 : Int32))).toInt ≤ (39 : Int); omega) (by show ((m3.1 10 6)).toInt = (m0.1 10 6).toInt; omega) (by show ((x2 + (-1 : Int32))).toInt + 1 < _; omega)
        · intro c18
          have k19 := z_nle c18
          have r20 := w_m1.at (a := 10) (k := 6) rfl
          exact ⟨w_m1, f_m1, rfl, (by show ((m1.1 10 6)).toInt = (m0.1 10 6).toInt; omega)⟩
set_option maxHeartbeats 4000000 in
theorem s_X5_release_10 {ad : Nat → Nat} {d : Nat} {m : Wm} {x1 : Int32} (w : WT m) : Ct ad μX5_release (d + 1) [.ref (ad 10), .int x1] m (fun r m' => WT m' ∧ Fx (RS [1]) m m' ∧ r = none ∧ ((m'.1 10 6).toInt = (m.1 10 6).toInt)) := by
  have f : Fx (RS [1]) m m := Fx.rf
  refine v_X5_release Ru_10 ?_
  have r1 := w.at (a := 10) (k := 5) rfl
  have t2 := ti_subc (x := (m.1 10 5)) (y := (1 : Int32)) (c := 1) rfl (by omega)
  have r3 := w.at (a := 10) (k := 6) rfl
  exact (l_X5_release_10 (m0 := m) 1000000) _ _ _ w f (by show (-1 : Int) ≤ (((m.1 10 5) - (1 : Int32))).toInt; omega) (by show (((m.1 10 5) - (1 : Int32))).toInt ≤ (39 : Int); omega) (by show ((m.1 10 6)).toInt = (m.1 10 6).toInt; omega) (by show (((m.1 10 5) - (1 : Int32))).toInt + 1 < _; omega)
theorem s_X5_release {ad : Nat → Nat} {d : Nat} {m : Wm} {b0 : Nat} {x1 : Int32} (w : WT m) (hb0 : b0 = 5 ∨ b0 = 10) : Ct ad μX5_release (d + 1) [.ref (ad b0), .int x1] m (fun r m' => WT m' ∧ Fx (RS [1]) m m' ∧ r = none ∧ ((m'.1 b0 6).toInt = (m.1 b0 6).toInt)) := by
  rcases hb0 with rfl | rfl
  · exact s_X5_release_5 w
  · exact s_X5_release_10 w
set_option maxHeartbeats 4000000 in
theorem s_X5_takeDigit_5 {ad : Nat → Nat} {d : Nat} {m : Wm} {x1 : Int32} (w : WT m) : Ct ad μX5_takeDigit (d + 1) [.ref (ad 5), .int x1] m (fun r m' => WT m' ∧ Fx (RS [1]) m m' ∧ ∃ v : Int32, r = some (.int v) ∧ (0 : Int) ≤ v.toInt ∧ v.toInt ≤ 1) := by
  have f : Fx (RS [1]) m m := Fx.rf
  refine v_X5_takeDigit Ru_5 ?_
  refine ⟨?_, ?_⟩
  · intro c1
    have k2 := y_eqr (n := 0) rfl c1
    refine ⟨?_, ?_⟩
    · intro c3
      have k4 := y_eqr (n := 0) rfl c3
      exact ⟨w, f, _, rfl, (by show (0 : Int) ≤ (0 : Int); omega), (by show (0 : Int) ≤ (1 : Int); omega)⟩
    · intro c5
      have k6 := y_ner (n := 0) rfl c5
      refine ⟨?_, ?_⟩
      · intro c7
        have k8 := y_eqr (n := 3) rfl c7
        exact ⟨w, f, _, rfl, (by show (0 : Int) ≤ (0 : Int); omega), (by show (0 : Int) ≤ (1 : Int); omega)⟩
      · intro c9
        have k10 := y_ner (n := 3) rfl c9
        refine ⟨?_, ?_⟩
        · intro c11
          have r12 := w.at (a := 5) (k := 4) rfl
          have k13 := y_ner (n := 0) rfl c11
          refine ⟨?_, ?_⟩
          · have t14 := ti_subc (x := (m.1 5 4)) (y := (1 : Int32)) (c := 1) rfl (by omega)
            exact vpi (by omega) (by omega)
          · refine ⟨?_, ?_⟩
            · have t15 := ti_subc (x := (m.1 5 4)) (y := (1 : Int32)) (c := 1) rfl (by omega)
              exact vpi (by omega) (by omega)
            · have w16 : WT (uI m (5 + 1) (((m.1 5 4) - (1 : Int32)).toNatClampNeg) (((m.1 (5 + 1) (((m.1 5 4) - (1 : Int32)).toNatClampNeg)) * (10 : Int32)) + x1)) := w.n rfl
              have f16 : Fx (RS [1]) m (uI m (5 + 1) (((m.1 5 4) - (1 : Int32)).toNatClampNeg) (((m.1 (5 + 1) (((m.1 5 4) - (1 : Int32)).toNatClampNeg)) * (10 : Int32)) + x1)) := f.i rfl
              have w17 : WT (uI (uI m (5 + 1) (((m.1 5 4) - (1 : Int32)).toNatClampNeg) (((m.1 (5 + 1) (((m.1 5 4) - (1 : Int32)).toNatClampNeg)) * (10 : Int32)) + x1)) 5 7 (((uI m (5 + 1) (((m.1 5 4) - (1 : Int32)).toNatClampNeg) (((m.1 (5 + 1) (((m.1 5 4) - (1 : Int32)).toNatClampNeg)) * (10 : Int32)) + x1)).1 5 7) + (1 : Int32))) := w16.n rfl
              have f17 : Fx (RS [1]) m (uI (uI m (5 + 1) (((m.1 5 4) - (1 : Int32)).toNatClampNeg) (((m.1 (5 + 1) (((m.1 5 4) - (1 : Int32)).toNatClampNeg)) * (10 : Int32)) + x1)) 5 7 (((uI m (5 + 1) (((m.1 5 4) - (1 : Int32)).toNatClampNeg) (((m.1 (5 + 1) (((m.1 5 4) - (1 : Int32)).toNatClampNeg)) * (10 : Int32)) + x1)).1 5 7) + (1 : Int32))) := f16.i rfl
              exact ⟨w17, f17, _, rfl, (by show (0 : Int) ≤ (1 : Int); omega), (by show (1 : Int) ≤ (1 : Int); omega)⟩
        · intro c18
          have r19 := w.at (a := 5) (k := 4) rfl
          have k20 := y_eqr (n := 0) rfl c18
          exact ⟨w, f, _, rfl, (by show (0 : Int) ≤ (0 : Int); omega), (by show (0 : Int) ≤ (1 : Int); omega)⟩
  · intro c21
    have k22 := y_ner (n := 0) rfl c21
    refine (s_X5_emit w (Or.inl rfl)).to ?_
    rintro _ m1 ⟨w_m1, g23, rfl, p24⟩
    have f_m1 : Fx (RS [1]) m m1 := f.tr g23 (RS_sub rfl)
    have p25 : (m1.1 5 6).toInt = ((m.1 5 6)).toInt := p24
    clear p24
    refine ⟨rfl, ?_⟩
    have w26 : WT (uI m1 5 7 (1 : Int32)) := w_m1.n rfl
    have f26 : Fx (RS [1]) m (uI m1 5 7 (1 : Int32)) := f_m1.i rfl
    have w27 : WT (uI (uI m1 5 7 (1 : Int32)) 5 8 (0 : Int32)) := w26.n rfl
    have f27 : Fx (RS [1]) m (uI (uI m1 5 7 (1 : Int32)) 5 8 (0 : Int32)) := f26.i rfl
    exact ⟨w27, f27, _, rfl, (by show (0 : Int) ≤ (1 : Int); omega), (by show (1 : Int) ≤ (1 : Int); omega)⟩
set_option maxHeartbeats 4000000 in
theorem s_X5_takeDigit_10 {ad : Nat → Nat} {d : Nat} {m : Wm} {x1 : Int32} (w : WT m) : Ct ad μX5_takeDigit (d + 1) [.ref (ad 10), .int x1] m (fun r m' => WT m' ∧ Fx (RS [1]) m m' ∧ ∃ v : Int32, r = some (.int v) ∧ (0 : Int) ≤ v.toInt ∧ v.toInt ≤ 1) := by
  have f : Fx (RS [1]) m m := Fx.rf
  refine v_X5_takeDigit Ru_10 ?_
  refine ⟨?_, ?_⟩
  · intro c1
    have k2 := y_eqr (n := 0) rfl c1
    refine ⟨?_, ?_⟩
    · intro c3
      have k4 := y_eqr (n := 0) rfl c3
      exact ⟨w, f, _, rfl, (by show (0 : Int) ≤ (0 : Int); omega), (by show (0 : Int) ≤ (1 : Int); omega)⟩
    · intro c5
      have k6 := y_ner (n := 0) rfl c5
      refine ⟨?_, ?_⟩
      · intro c7
        have k8 := y_eqr (n := 3) rfl c7
        exact ⟨w, f, _, rfl, (by show (0 : Int) ≤ (0 : Int); omega), (by show (0 : Int) ≤ (1 : Int); omega)⟩
      · intro c9
        have k10 := y_ner (n := 3) rfl c9
        refine ⟨?_, ?_⟩
        · intro c11
          have r12 := w.at (a := 10) (k := 4) rfl
          have k13 := y_ner (n := 0) rfl c11
          refine ⟨?_, ?_⟩
          · have t14 := ti_subc (x := (m.1 10 4)) (y := (1 : Int32)) (c := 1) rfl (by omega)
            exact vpi (by omega) (by omega)
          · refine ⟨?_, ?_⟩
            · have t15 := ti_subc (x := (m.1 10 4)) (y := (1 : Int32)) (c := 1) rfl (by omega)
              exact vpi (by omega) (by omega)
            · have w16 : WT (uI m (10 + 1) (((m.1 10 4) - (1 : Int32)).toNatClampNeg) (((m.1 (10 + 1) (((m.1 10 4) - (1 : Int32)).toNatClampNeg)) * (10 : Int32)) + x1)) := w.n rfl
              have f16 : Fx (RS [1]) m (uI m (10 + 1) (((m.1 10 4) - (1 : Int32)).toNatClampNeg) (((m.1 (10 + 1) (((m.1 10 4) - (1 : Int32)).toNatClampNeg)) * (10 : Int32)) + x1)) := f.i rfl
              have w17 : WT (uI (uI m (10 + 1) (((m.1 10 4) - (1 : Int32)).toNatClampNeg) (((m.1 (10 + 1) (((m.1 10 4) - (1 : Int32)).toNatClampNeg)) * (10 : Int32)) + x1)) 10 7 (((uI m (10 + 1) (((m.1 10 4) - (1 : Int32)).toNatClampNeg) (((m.1 (10 + 1) (((m.1 10 4) - (1 : Int32)).toNatClampNeg)) * (10 : Int32)) + x1)).1 10 7) + (1 : Int32))) := w16.n rfl
              have f17 : Fx (RS [1]) m (uI (uI m (10 + 1) (((m.1 10 4) - (1 : Int32)).toNatClampNeg) (((m.1 (10 + 1) (((m.1 10 4) - (1 : Int32)).toNatClampNeg)) * (10 : Int32)) + x1)) 10 7 (((uI m (10 + 1) (((m.1 10 4) - (1 : Int32)).toNatClampNeg) (((m.1 (10 + 1) (((m.1 10 4) - (1 : Int32)).toNatClampNeg)) * (10 : Int32)) + x1)).1 10 7) + (1 : Int32))) := f16.i rfl
              exact ⟨w17, f17, _, rfl, (by show (0 : Int) ≤ (1 : Int); omega), (by show (1 : Int) ≤ (1 : Int); omega)⟩
        · intro c18
          have r19 := w.at (a := 10) (k := 4) rfl
          have k20 := y_eqr (n := 0) rfl c18
          exact ⟨w, f, _, rfl, (by show (0 : Int) ≤ (0 : Int); omega), (by show (0 : Int) ≤ (1 : Int); omega)⟩
  · intro c21
    have k22 := y_ner (n := 0) rfl c21
    refine (s_X5_emit w (Or.inr rfl)).to ?_
    rintro _ m1 ⟨w_m1, g23, rfl, p24⟩
    have f_m1 : Fx (RS [1]) m m1 := f.tr g23 (RS_sub rfl)
    have p25 : (m1.1 10 6).toInt = ((m.1 10 6)).toInt := p24
    clear p24
    refine ⟨rfl, ?_⟩
    have w26 : WT (uI m1 10 7 (1 : Int32)) := w_m1.n rfl
    have f26 : Fx (RS [1]) m (uI m1 10 7 (1 : Int32)) := f_m1.i rfl
    have w27 : WT (uI (uI m1 10 7 (1 : Int32)) 10 8 (0 : Int32)) := w26.n rfl
    have f27 : Fx (RS [1]) m (uI (uI m1 10 7 (1 : Int32)) 10 8 (0 : Int32)) := f26.i rfl
    exact ⟨w27, f27, _, rfl, (by show (0 : Int) ≤ (1 : Int); omega), (by show (1 : Int) ≤ (1 : Int); omega)⟩
theorem s_X5_takeDigit {ad : Nat → Nat} {d : Nat} {m : Wm} {b0 : Nat} {x1 : Int32} (w : WT m) (hb0 : b0 = 5 ∨ b0 = 10) : Ct ad μX5_takeDigit (d + 1) [.ref (ad b0), .int x1] m (fun r m' => WT m' ∧ Fx (RS [1]) m m' ∧ ∃ v : Int32, r = some (.int v) ∧ (0 : Int) ≤ v.toInt ∧ v.toInt ≤ 1) := by
  rcases hb0 with rfl | rfl
  · exact s_X5_takeDigit_5 w
  · exact s_X5_takeDigit_10 w
set_option maxHeartbeats 4000000 in
theorem s_X5_takeThing_5 {ad : Nat → Nat} {d : Nat} {m : Wm} {x1 : Int32} (w : WT m) : Ct ad μX5_takeThing (d + 1) [.ref (ad 5), .int x1] m (fun r m' => WT m' ∧ Fx (RS [1]) m m' ∧ ∃ v : Int32, r = some (.int v) ∧ (0 : Int) ≤ v.toInt ∧ v.toInt ≤ 1) := by
  have f : Fx (RS [1]) m m := Fx.rf
  refine v_X5_takeThing Ru_5 ?_
  refine ⟨?_, ?_⟩
  · intro c1
    have k2 := y_ner (n := 45) rfl c1
    refine ⟨?_, ?_⟩
    · intro c3
      have k4 := y_ner (n := 40) rfl c3
      refine (s_X5_isThing w).to ?_
      rintro _ m1 ⟨w_m1, g5, v2, rfl, p6, p7⟩
      have f_m1 : Fx (RS [1]) m m1 := f.tr g5 (RS_sub rfl)
      refine ⟨v2, rfl, ?_⟩
      refine ⟨?_, ?_⟩
      · intro c8
        have k9 := y_ner (n := 0) rfl c8
        refine (s_X5_emit w_m1 (Or.inl rfl)).to ?_
        rintro _ m3 ⟨w_m3, g10, rfl, p11⟩
        have f_m3 : Fx (RS [1]) m m3 := f_m1.tr g10 (RS_sub rfl)
        have p12 : (m3.1 5 6).toInt = ((m1.1 5 6)).toInt := p11
        clear p11
        refine ⟨rfl, ?_⟩
        have w13 : WT (uI m3 5 8 (0 : Int32)) := w_m3.n rfl
        have f13 : Fx (RS [1]) m (uI m3 5 8 (0 : Int32)) := f_m3.i rfl
        exact ⟨w13, f13, _, rfl, (by show (0 : Int) ≤ (1 : Int); omega), (by show (1 : Int) ≤ (1 : Int); omega)⟩
      · intro c14
        have k15 := y_eqr (n := 0) rfl c14
        exact ⟨w_m1, f_m1, _, rfl, (by show (0 : Int) ≤ (0 : Int); omega), (by show (0 : Int) ≤ (1 : Int); omega)⟩
    · intro c16
      have k17 := y_eqr (n := 40) rfl c16
      refine ⟨?_, ?_⟩
      · intro c18
        have r19 := w.at (a := 5) (k := 6) rfl
        have k20 := y_ltr (n := 4) rfl c18
        refine ⟨?_, ?_⟩
        · have t21 := ti_addc (x := (m.1 5 6)) (y := (1 : Int32)) (c := 1) rfl (by omega)
          show vp_in ((m.1 5 6) + (1 : Int32)) 5
          exact vpi (by omega) (by omega)
        · have t23 := ti_addc (x := (m.1 5 6)) (y := (1 : Int32)) (c := 1) rfl (by omega)
          have w22 : WT (uI m 5 6 ((m.1 5 6) + (1 : Int32))) := w.t rfl (by show (0 : Int) ≤ (((m.1 5 6) + (1 : Int32))).toInt; omega) (by show (((m.1 5 6) + (1 : Int32))).toInt ≤ 4; omega)
          have f22 : Fx (RS [1]) m (uI m 5 6 ((m.1 5 6) + (1 : Int32))) := f.i rfl
          have w24 : WT (uI (uI m 5 6 ((m.1 5 6) + (1 : Int32))) (5 + 4) (((uI m 5 6 ((m.1 5 6) + (1 : Int32))).1 5 6).toNatClampNeg) (vp_nar .boolean (0 : Int32))) := w22.n rfl
          have f24 : Fx (RS [1]) m (uI (uI m 5 6 ((m.1 5 6) + (1 : Int32))) (5 + 4) (((uI m 5 6 ((m.1 5 6) + (1 : Int32))).1 5 6).toNatClampNeg) (vp_nar .boolean (0 : Int32))) := f22.i rfl
          refine (s_X5_hold w24 (Or.inl rfl)).to ?_
          rintro _ m4 ⟨w_m4, g25, rfl⟩
          have f_m4 : Fx (RS [1]) m m4 := f24.tr g25 (RS_sub rfl)
          refine ⟨rfl, ?_⟩
          exact ⟨w_m4, f_m4, _, rfl, (by show (0 : Int) ≤ (1 : Int); omega), (by show (1 : Int) ≤ (1 : Int); omega)⟩
      · intro c26
        have r27 := w.at (a := 5) (k := 6) rfl
        have k28 := y_nltr (n := 4) rfl c26
        exact ⟨w, f, _, rfl, (by show (0 : Int) ≤ (0 : Int); omega), (by show (0 : Int) ≤ (1 : Int); omega)⟩
  · intro c29
    have k30 := y_eqr (n := 45) rfl c29
    refine (s_X5_hold w (Or.inl rfl)).to ?_
    rintro _ m5 ⟨w_m5, g31, rfl⟩
    have f_m5 : Fx (RS [1]) m m5 := f.tr g31 (RS_sub rfl)
    refine ⟨rfl, ?_⟩
    exact ⟨w_m5, f_m5, _, rfl, (by show (0 : Int) ≤ (1 : Int); omega), (by show (1 : Int) ≤ (1 : Int); omega)⟩
set_option maxHeartbeats 4000000 in
theorem s_X5_takeThing_10 {ad : Nat → Nat} {d : Nat} {m : Wm} {x1 : Int32} (w : WT m) : Ct ad μX5_takeThing (d + 1) [.ref (ad 10), .int x1] m (fun r m' => WT m' ∧ Fx (RS [1]) m m' ∧ ∃ v : Int32, r = some (.int v) ∧ (0 : Int) ≤ v.toInt ∧ v.toInt ≤ 1) := by
  have f : Fx (RS [1]) m m := Fx.rf
  refine v_X5_takeThing Ru_10 ?_
  refine ⟨?_, ?_⟩
  · intro c1
    have k2 := y_ner (n := 45) rfl c1
    refine ⟨?_, ?_⟩
    · intro c3
      have k4 := y_ner (n := 40) rfl c3
      refine (s_X5_isThing w).to ?_
      rintro _ m1 ⟨w_m1, g5, v2, rfl, p6, p7⟩
      have f_m1 : Fx (RS [1]) m m1 := f.tr g5 (RS_sub rfl)
      refine ⟨v2, rfl, ?_⟩
      refine ⟨?_, ?_⟩
      · intro c8
        have k9 := y_ner (n := 0) rfl c8
        refine (s_X5_emit w_m1 (Or.inr rfl)).to ?_
        rintro _ m3 ⟨w_m3, g10, rfl, p11⟩
        have f_m3 : Fx (RS [1]) m m3 := f_m1.tr g10 (RS_sub rfl)
        have p12 : (m3.1 10 6).toInt = ((m1.1 10 6)).toInt := p11
        clear p11
        refine ⟨rfl, ?_⟩
        have w13 : WT (uI m3 10 8 (0 : Int32)) := w_m3.n rfl
        have f13 : Fx (RS [1]) m (uI m3 10 8 (0 : Int32)) := f_m3.i rfl
        exact ⟨w13, f13, _, rfl, (by show (0 : Int) ≤ (1 : Int); omega), (by show (1 : Int) ≤ (1 : Int); omega)⟩
      · intro c14
        have k15 := y_eqr (n := 0) rfl c14
        exact ⟨w_m1, f_m1, _, rfl, (by show (0 : Int) ≤ (0 : Int); omega), (by show (0 : Int) ≤ (1 : Int); omega)⟩
    · intro c16
      have k17 := y_eqr (n := 40) rfl c16
      refine ⟨?_, ?_⟩
      · intro c18
        have r19 := w.at (a := 10) (k := 6) rfl
        have k20 := y_ltr (n := 4) rfl c18
        refine ⟨?_, ?_⟩
        · have t21 := ti_addc (x := (m.1 10 6)) (y := (1 : Int32)) (c := 1) rfl (by omega)
          show vp_in ((m.1 10 6) + (1 : Int32)) 5
          exact vpi (by omega) (by omega)
        · have t23 := ti_addc (x := (m.1 10 6)) (y := (1 : Int32)) (c := 1) rfl (by omega)
          have w22 : WT (uI m 10 6 ((m.1 10 6) + (1 : Int32))) := w.t rfl (by show (0 : Int) ≤ (((m.1 10 6) + (1 : Int32))).toInt; omega) (by show (((m.1 10 6) + (1 : Int32))).toInt ≤ 4; omega)
          have f22 : Fx (RS [1]) m (uI m 10 6 ((m.1 10 6) + (1 : Int32))) := f.i rfl
          have w24 : WT (uI (uI m 10 6 ((m.1 10 6) + (1 : Int32))) (10 + 4) (((uI m 10 6 ((m.1 10 6) + (1 : Int32))).1 10 6).toNatClampNeg) (vp_nar .boolean (0 : Int32))) := w22.n rfl
          have f24 : Fx (RS [1]) m (uI (uI m 10 6 ((m.1 10 6) + (1 : Int32))) (10 + 4) (((uI m 10 6 ((m.1 10 6) + (1 : Int32))).1 10 6).toNatClampNeg) (vp_nar .boolean (0 : Int32))) := f22.i rfl
          refine (s_X5_hold w24 (Or.inr rfl)).to ?_
          rintro _ m4 ⟨w_m4, g25, rfl⟩
          have f_m4 : Fx (RS [1]) m m4 := f24.tr g25 (RS_sub rfl)
          refine ⟨rfl, ?_⟩
          exact ⟨w_m4, f_m4, _, rfl, (by show (0 : Int) ≤ (1 : Int); omega), (by show (1 : Int) ≤ (1 : Int); omega)⟩
      · intro c26
        have r27 := w.at (a := 10) (k := 6) rfl
        have k28 := y_nltr (n := 4) rfl c26
        exact ⟨w, f, _, rfl, (by show (0 : Int) ≤ (0 : Int); omega), (by show (0 : Int) ≤ (1 : Int); omega)⟩
  · intro c29
    have k30 := y_eqr (n := 45) rfl c29
    refine (s_X5_hold w (Or.inr rfl)).to ?_
    rintro _ m5 ⟨w_m5, g31, rfl⟩
    have f_m5 : Fx (RS [1]) m m5 := f.tr g31 (RS_sub rfl)
    refine ⟨rfl, ?_⟩
    exact ⟨w_m5, f_m5, _, rfl, (by show (0 : Int) ≤ (1 : Int); omega), (by show (1 : Int) ≤ (1 : Int); omega)⟩
theorem s_X5_takeThing {ad : Nat → Nat} {d : Nat} {m : Wm} {b0 : Nat} {x1 : Int32} (w : WT m) (hb0 : b0 = 5 ∨ b0 = 10) : Ct ad μX5_takeThing (d + 1) [.ref (ad b0), .int x1] m (fun r m' => WT m' ∧ Fx (RS [1]) m m' ∧ ∃ v : Int32, r = some (.int v) ∧ (0 : Int) ≤ v.toInt ∧ v.toInt ≤ 1) := by
  rcases hb0 with rfl | rfl
  · exact s_X5_takeThing_5 w
  · exact s_X5_takeThing_10 w
set_option maxHeartbeats 4000000 in
theorem l_X5_takeJoin_5 {ad : Nat → Nat} {d : Nat} {m0 : Wm}  : ∀ n : Nat, (∀ (m : Wm) (x1 x2 : Int32), WT m → Fx (RS [1]) m0 m → 0 * x1.toInt + 1 < (n : Int) → AW ad E0 μX5_takeJoin (d + 2) (fun r m' => WT m' ∧ Fx (RS [1]) m0 m' ∧ ∃ v : Int32, r = some (.int v) ∧ (0 : Int) ≤ v.toInt ∧ v.toInt ≤ 1) 74 [(0, .ref (ad 5)), (1, .int x1), (2, .int x2)] [] m) ∧ (∀ (m : Wm) (x1 x2 : Int32), WT m → Fx (RS [1]) m0 m → 0 * x1.toInt < (n : Int) → AW ad E0 μX5_takeJoin (d + 2) (fun r m' => WT m' ∧ Fx (RS [1]) m0 m' ∧ ∃ v : Int32, r = some (.int v) ∧ (0 : Int) ≤ v.toInt ∧ v.toInt ≤ 1) 89 [(0, .ref (ad 5)), (1, .int x1), (2, .int x2)] [] m) := by
  intro n
  induction n with
  | zero =>
    refine ⟨?_, ?_⟩ <;> intros <;> exfalso <;> omega
  | succ n ih =>
    refine ⟨?_, ?_⟩
    · intro m x1 x2 w f  hn
      refine g_X5_takeJoin_74 Ru_5 ?_
      refine ⟨?_, ?_⟩
      · intro c1
        have k2 := y_ner (n := 1) rfl c1
        exact ih.2 _ _ _ w f (by show 0 * (x1).toInt < _; omega)
      · intro c3
        have k4 := y_eqr (n := 1) rfl c3
        refine ⟨?_, ?_⟩
        · have r5 := w.at (a := 5) (k := 6) rfl
          exact vpi (by omega) (by omega)
        · have w6 : WT (uI m (5 + 4) ((m.1 5 6).toNatClampNeg) (vp_nar .boolean (1 : Int32))) := w.n rfl
          have f6 : Fx (RS [1]) m0 (uI m (5 + 4) ((m.1 5 6).toNatClampNeg) (vp_nar .boolean (1 : Int32))) := f.i rfl
          exact ih.2 _ _ _ w6 f6 (by show 0 * (x1).toInt < _; omega)
    · intro m x1 x2 w f  hn
      refine g_X5_takeJoin_89 Ru_5 ?_
      refine (s_X5_release w (Or.inl rfl)).to ?_
      rintro _ m1 ⟨w_m1, g1, rfl, p2⟩
      have f_m1 : Fx (RS [1]) m0 m1 := f.tr g1 (RS_sub rfl)
      have p3 : (m1.1 5 6).toInt = ((m.1 5 6)).toInt := p2
      clear p2
      refine ⟨rfl, ?_⟩
      refine (s_X5_hold w_m1 (Or.inl rfl)).to ?_
      rintro _ m2 ⟨w_m2, g4, rfl⟩
      have f_m2 : Fx (RS [1]) m0 m2 := f_m1.tr g4 (RS_sub rfl)
      refine ⟨rfl, ?_⟩
      have w5 : WT (uI m2 5 8 (1 : Int32)) := w_m2.n rfl
      have f5 : Fx (RS [1]) m0 (uI m2 5 8 (1 : Int32)) := f_m2.i rfl
      exact ⟨w5, f5, _, rfl, (by show (0 : Int) ≤ (1 : Int); omega), (by show (1 : Int) ≤ (1 : Int); omega)⟩
set_option maxHeartbeats 4000000 in
theorem s_X5_takeJoin_5 {ad : Nat → Nat} {d : Nat} {m : Wm} {x1 : Int32} (w : WT m) : Ct ad μX5_takeJoin (d + 2) [.ref (ad 5), .int x1] m (fun r m' => WT m' ∧ Fx (RS [1]) m m' ∧ ∃ v : Int32, r = some (.int v) ∧ (0 : Int) ≤ v.toInt ∧ v.toInt ≤ 1) := by
  have f : Fx (RS [1]) m m := Fx.rf
  refine v_X5_takeJoin Ru_5 ?_
  refine ⟨?_, ?_⟩
  · intro c1
    have k2 := y_ner (n := 41) rfl c1
    refine (s_X5_rank w).to ?_
    rintro _ m1 ⟨w_m1, g3, v2, rfl, p4, p5⟩
    have f_m1 : Fx (RS [1]) m m1 := f.tr g3 (RS_sub rfl)
    refine ⟨v2, rfl, ?_⟩
    refine ⟨?_, ?_⟩
    · intro c6
      have k7 := y_eqr (n := 0) rfl c6
      exact ⟨w_m1, f_m1, _, rfl, (by show (0 : Int) ≤ (0 : Int); omega), (by show (0 : Int) ≤ (1 : Int); omega)⟩
    · intro c8
      have k9 := y_ner (n := 0) rfl c8
      refine ⟨?_, ?_⟩
      · intro c10
        have k11 := y_ner (n := 1) rfl c10
        exact (l_X5_takeJoin_5 (m0 := m) 1000000).1 _ _ _ w_m1 f_m1 (by show 0 * (x1).toInt + 1 < _; omega)
      · intro c12
        have k13 := y_eqr (n := 1) rfl c12
        refine ⟨?_, ?_⟩
        · have r14 := w_m1.at (a := 5) (k := 6) rfl
          exact vpi (by omega) (by omega)
        · refine ⟨?_, ?_⟩
          · intro c15
            have k16 := y_eqr (n := 0) rfl c15
            exact (l_X5_takeJoin_5 (m0 := m) 1000000).1 _ _ _ w_m1 f_m1 (by show 0 * (x1).toInt + 1 < _; omega)
          · intro c17
            have k18 := y_ner (n := 0) rfl c17
            exact ⟨w_m1, f_m1, _, rfl, (by show (0 : Int) ≤ (0 : Int); omega), (by show (0 : Int) ≤ (1 : Int); omega)⟩
  · intro c19
    have k20 := y_eqr (n := 41) rfl c19
    refine ⟨?_, ?_⟩
    · intro c21
      have r22 := w.at (a := 5) (k := 6) rfl
      have k23 := y_ner (n := 0) rfl c21
      refine (s_X5_release w (Or.inl rfl)).to ?_
      rintro _ m3 ⟨w_m3, g24, rfl, p25⟩
      have f_m3 : Fx (RS [1]) m m3 := f.tr g24 (RS_sub rfl)
      have p26 : (m3.1 5 6).toInt = ((m.1 5 6)).toInt := p25
      clear p25
      refine ⟨rfl, ?_⟩
      have r28 := w_m3.at (a := 5) (k := 5) rfl
      have t29 := ti_subc (x := (m3.1 5 5)) (y := (1 : Int32)) (c := 1) rfl (by omega)
      have t30 := ti_ltv (a := (0 : Int32)) (b := ((m3.1 5 5) - (1 : Int32))) (c := ((m3.1 5 5) - (1 : Int32))) (d := (0 : Int32)) (A := (0)) (B := ((m3.1 5 5) - (1 : Int32)).toInt) (C := ((m3.1 5 5) - (1 : Int32)).toInt) (D := (0)) rfl rfl rfl rfl
      have w27 : WT (uI m3 5 5 (if (0 : Int32) < ((m3.1 5 5) - (1 : Int32)) then ((m3.1 5 5) - (1 : Int32)) else (0 : Int32))) := w_m3.t rfl (by show (0 : Int) ≤ ((if (0 : Int32) < ((m3.1 5 5) - (1 : Int32)) then ((m3.1 5 5) - (1 : Int32)) else (0 : Int32))).toInt; omega) (by show ((if (0 : Int32) < ((m3.1 5 5) - (1 : Int32)) then ((m3.1 5 5) - (1 : Int32)) else (0 : Int32))).toInt ≤ 40; omega)
      have f27 : Fx (RS [1]) m (uI m3 5 5 (if (0 : Int32) < ((m3.1 5 5) - (1 : Int32)) then ((m3.1 5 5) - (1 : Int32)) else (0 : Int32))) := f_m3.i rfl
      have r32 := w_m3.at (a := 5) (k := 6) rfl
      have t33 := ti_subc (x := (m3.1 5 6)) (y := (1 : Int32)) (c := 1) rfl (by omega)
      have w31 : WT (uI (uI m3 5 5 (if (0 : Int32) < ((m3.1 5 5) - (1 : Int32)) then ((m3.1 5 5) - (1 : Int32)) else (0 : Int32))) 5 6 (((uI m3 5 5 (if (0 : Int32) < ((m3.1 5 5) - (1 : Int32)) then ((m3.1 5 5) - (1 : Int32)) else (0 : Int32))).1 5 6) - (1 : Int32))) := w27.t rfl (by show (0 : Int) ≤ (((m3.1 5 6) - (1 : Int32))).toInt; omega) (by show (((m3.1 5 6) - (1 : Int32))).toInt ≤ 4; omega)
      have f31 : Fx (RS [1]) m (uI (uI m3 5 5 (if (0 : Int32) < ((m3.1 5 5) - (1 : Int32)) then ((m3.1 5 5) - (1 : Int32)) else (0 : Int32))) 5 6 (((uI m3 5 5 (if (0 : Int32) < ((m3.1 5 5) - (1 : Int32)) then ((m3.1 5 5) - (1 : Int32)) else (0 : Int32))).1 5 6) - (1 : Int32))) := f27.i rfl
      exact ⟨w31, f31, _, rfl, (by show (0 : Int) ≤ (1 : Int); omega), (by show (1 : Int) ≤ (1 : Int); omega)⟩
    · intro c34
      have r35 := w.at (a := 5) (k := 6) rfl
      have k36 := y_eqr (n := 0) rfl c34
      exact ⟨w, f, _, rfl, (by show (0 : Int) ≤ (0 : Int); omega), (by show (0 : Int) ≤ (1 : Int); omega)⟩
set_option maxHeartbeats 4000000 in
theorem l_X5_takeJoin_10 {ad : Nat → Nat} {d : Nat} {m0 : Wm}  : ∀ n : Nat, (∀ (m : Wm) (x1 x2 : Int32), WT m → Fx (RS [1]) m0 m → 0 * x1.toInt + 1 < (n : Int) → AW ad E0 μX5_takeJoin (d + 2) (fun r m' => WT m' ∧ Fx (RS [1]) m0 m' ∧ ∃ v : Int32, r = some (.int v) ∧ (0 : Int) ≤ v.toInt ∧ v.toInt ≤ 1) 74 [(0, .ref (ad 10)), (1, .int x1), (2, .int x2)] [] m) ∧ (∀ (m : Wm) (x1 x2 : Int32), WT m → Fx (RS [1]) m0 m → 0 * x1.toInt < (n : Int) → AW ad E0 μX5_takeJoin (d + 2) (fun r m' => WT m' ∧ Fx (RS [1]) m0 m' ∧ ∃ v : Int32, r = some (.int v) ∧ (0 : Int) ≤ v.toInt ∧ v.toInt ≤ 1) 89 [(0, .ref (ad 10)), (1, .int x1), (2, .int x2)] [] m) := by
  intro n
  induction n with
  | zero =>
    refine ⟨?_, ?_⟩ <;> intros <;> exfalso <;> omega
  | succ n ih =>
    refine ⟨?_, ?_⟩
    · intro m x1 x2 w f  hn
      refine g_X5_takeJoin_74 Ru_10 ?_
      refine ⟨?_, ?_⟩
      · intro c1
        have k2 := y_ner (n := 1) rfl c1
        exact ih.2 _ _ _ w f (by show 0 * (x1).toInt < _; omega)
      · intro c3
        have k4 := y_eqr (n := 1) rfl c3
        refine ⟨?_, ?_⟩
        · have r5 := w.at (a := 10) (k := 6) rfl
          exact vpi (by omega) (by omega)
        · have w6 : WT (uI m (10 + 4) ((m.1 10 6).toNatClampNeg) (vp_nar .boolean (1 : Int32))) := w.n rfl
          have f6 : Fx (RS [1]) m0 (uI m (10 + 4) ((m.1 10 6).toNatClampNeg) (vp_nar .boolean (1 : Int32))) := f.i rfl
          exact ih.2 _ _ _ w6 f6 (by show 0 * (x1).toInt < _; omega)
    · intro m x1 x2 w f  hn
      refine g_X5_takeJoin_89 Ru_10 ?_
      refine (s_X5_release w (Or.inr rfl)).to ?_
      rintro _ m1 ⟨w_m1, g1, rfl, p2⟩
      have f_m1 : Fx (RS [1]) m0 m1 := f.tr g1 (RS_sub rfl)
      have p3 : (m1.1 10 6).toInt = ((m.1 10 6)).toInt := p2
      clear p2
      refine ⟨rfl, ?_⟩
      refine (s_X5_hold w_m1 (Or.inr rfl)).to ?_
      rintro _ m2 ⟨w_m2, g4, rfl⟩
      have f_m2 : Fx (RS [1]) m0 m2 := f_m1.tr g4 (RS_sub rfl)
      refine ⟨rfl, ?_⟩
      have w5 : WT (uI m2 10 8 (1 : Int32)) := w_m2.n rfl
      have f5 : Fx (RS [1]) m0 (uI m2 10 8 (1 : Int32)) := f_m2.i rfl
      exact ⟨w5, f5, _, rfl, (by show (0 : Int) ≤ (1 : Int); omega), (by show (1 : Int) ≤ (1 : Int); omega)⟩
set_option maxHeartbeats 4000000 in
theorem s_X5_takeJoin_10 {ad : Nat → Nat} {d : Nat} {m : Wm} {x1 : Int32} (w : WT m) : Ct ad μX5_takeJoin (d + 2) [.ref (ad 10), .int x1] m (fun r m' => WT m' ∧ Fx (RS [1]) m m' ∧ ∃ v : Int32, r = some (.int v) ∧ (0 : Int) ≤ v.toInt ∧ v.toInt ≤ 1) := by
  have f : Fx (RS [1]) m m := Fx.rf
  refine v_X5_takeJoin Ru_10 ?_
  refine ⟨?_, ?_⟩
  · intro c1
    have k2 := y_ner (n := 41) rfl c1
    refine (s_X5_rank w).to ?_
    rintro _ m1 ⟨w_m1, g3, v2, rfl, p4, p5⟩
    have f_m1 : Fx (RS [1]) m m1 := f.tr g3 (RS_sub rfl)
    refine ⟨v2, rfl, ?_⟩
    refine ⟨?_, ?_⟩
    · intro c6
      have k7 := y_eqr (n := 0) rfl c6
      exact ⟨w_m1, f_m1, _, rfl, (by show (0 : Int) ≤ (0 : Int); omega), (by show (0 : Int) ≤ (1 : Int); omega)⟩
    · intro c8
      have k9 := y_ner (n := 0) rfl c8
      refine ⟨?_, ?_⟩
      · intro c10
        have k11 := y_ner (n := 1) rfl c10
        exact (l_X5_takeJoin_10 (m0 := m) 1000000).1 _ _ _ w_m1 f_m1 (by show 0 * (x1).toInt + 1 < _; omega)
      · intro c12
        have k13 := y_eqr (n := 1) rfl c12
        refine ⟨?_, ?_⟩
        · have r14 := w_m1.at (a := 10) (k := 6) rfl
          exact vpi (by omega) (by omega)
        · refine ⟨?_, ?_⟩
          · intro c15
            have k16 := y_eqr (n := 0) rfl c15
            exact (l_X5_takeJoin_10 (m0 := m) 1000000).1 _ _ _ w_m1 f_m1 (by show 0 * (x1).toInt + 1 < _; omega)
          · intro c17
            have k18 := y_ner (n := 0) rfl c17
            exact ⟨w_m1, f_m1, _, rfl, (by show (0 : Int) ≤ (0 : Int); omega), (by show (0 : Int) ≤ (1 : Int); omega)⟩
  · intro c19
    have k20 := y_eqr (n := 41) rfl c19
    refine ⟨?_, ?_⟩
    · intro c21
      have r22 := w.at (a := 10) (k := 6) rfl
      have k23 := y_ner (n := 0) rfl c21
      refine (s_X5_release w (Or.inr rfl)).to ?_
      rintro _ m3 ⟨w_m3, g24, rfl, p25⟩
      have f_m3 : Fx (RS [1]) m m3 := f.tr g24 (RS_sub rfl)
      have p26 : (m3.1 10 6).toInt = ((m.1 10 6)).toInt := p25
      clear p25
      refine ⟨rfl, ?_⟩
      have r28 := w_m3.at (a := 10) (k := 5) rfl
      have t29 := ti_subc (x := (m3.1 10 5)) (y := (1 : Int32)) (c := 1) rfl (by omega)
      have t30 := ti_ltv (a := (0 : Int32)) (b := ((m3.1 10 5) - (1 : Int32))) (c := ((m3.1 10 5) - (1 : Int32))) (d := (0 : Int32)) (A := (0)) (B := ((m3.1 10 5) - (1 : Int32)).toInt) (C := ((m3.1 10 5) - (1 : Int32)).toInt) (D := (0)) rfl rfl rfl rfl
      have w27 : WT (uI m3 10 5 (if (0 : Int32) < ((m3.1 10 5) - (1 : Int32)) then ((m3.1 10 5) - (1 : Int32)) else (0 : Int32))) := w_m3.t rfl (by show (0 : Int) ≤ ((if (0 : Int32) < ((m3.1 10 5) - (1 : Int32)) then ((m3.1 10 5) - (1 : Int32)) else (0 : Int32))).toInt; omega) (by show ((if (0 : Int32) < ((m3.1 10 5) - (1 : Int32)) then ((m3.1 10 5) - (1 : Int32)) else (0 : Int32))).toInt ≤ 40; omega)
      have f27 : Fx (RS [1]) m (uI m3 10 5 (if (0 : Int32) < ((m3.1 10 5) - (1 : Int32)) then ((m3.1 10 5) - (1 : Int32)) else (0 : Int32))) := f_m3.i rfl
      have r32 := w_m3.at (a := 10) (k := 6) rfl
      have t33 := ti_subc (x := (m3.1 10 6)) (y := (1 : Int32)) (c := 1) rfl (by omega)
      have w31 : WT (uI (uI m3 10 5 (if (0 : Int32) < ((m3.1 10 5) - (1 : Int32)) then ((m3.1 10 5) - (1 : Int32)) else (0 : Int32))) 10 6 (((uI m3 10 5 (if (0 : Int32) < ((m3.1 10 5) - (1 : Int32)) then ((m3.1 10 5) - (1 : Int32)) else (0 : Int32))).1 10 6) - (1 : Int32))) := w27.t rfl (by show (0 : Int) ≤ (((m3.1 10 6) - (1 : Int32))).toInt; omega) (by show (((m3.1 10 6) - (1 : Int32))).toInt ≤ 4; omega)
      have f31 : Fx (RS [1]) m (uI (uI m3 10 5 (if (0 : Int32) < ((m3.1 10 5) - (1 : Int32)) then ((m3.1 10 5) - (1 : Int32)) else (0 : Int32))) 10 6 (((uI m3 10 5 (if (0 : Int32) < ((m3.1 10 5) - (1 : Int32)) then ((m3.1 10 5) - (1 : Int32)) else (0 : Int32))).1 10 6) - (1 : Int32))) := f27.i rfl
      exact ⟨w31, f31, _, rfl, (by show (0 : Int) ≤ (1 : Int); omega), (by show (1 : Int) ≤ (1 : Int); omega)⟩
    · intro c34
      have r35 := w.at (a := 10) (k := 6) rfl
      have k36 := y_eqr (n := 0) rfl c34
      exact ⟨w, f, _, rfl, (by show (0 : Int) ≤ (0 : Int); omega), (by show (0 : Int) ≤ (1 : Int); omega)⟩
theorem s_X5_takeJoin {ad : Nat → Nat} {d : Nat} {m : Wm} {b0 : Nat} {x1 : Int32} (w : WT m) (hb0 : b0 = 5 ∨ b0 = 10) : Ct ad μX5_takeJoin (d + 2) [.ref (ad b0), .int x1] m (fun r m' => WT m' ∧ Fx (RS [1]) m m' ∧ ∃ v : Int32, r = some (.int v) ∧ (0 : Int) ≤ v.toInt ∧ v.toInt ≤ 1) := by
  rcases hb0 with rfl | rfl
  · exact s_X5_takeJoin_5 w
  · exact s_X5_takeJoin_10 w
set_option maxHeartbeats 4000000 in
theorem l_X5_take_5 {ad : Nat → Nat} {d : Nat} {m0 : Wm}  : ∀ n : Nat, (∀ (m : Wm) (x1 : Int32), WT m → Fx (RS [1]) m0 m → 0 * x1.toInt < (n : Int) → AW ad E0 μX5_take (d + 3) (fun r m' => WT m' ∧ Fx (RS [1]) m0 m' ∧ ∃ v : Int32, r = some (.int v) ∧ (0 : Int) ≤ v.toInt ∧ v.toInt ≤ 1) 21 [(0, .ref (ad 5)), (1, .int x1)] [] m) := by
  intro n
  induction n with
  | zero =>
    intros
    exfalso
    omega
  | succ n ih =>
    intro m x1 w f  hn
    refine g_X5_take_21 Ru_5 ?_
    refine ⟨?_, ?_⟩
    · intro c1
      have c2 : (m.1 5 8) = (0 : Int32) := c1
      have k3 := y_eqr (n := 0) rfl c2
      have w4 : WT (uI m 5 7 (0 : Int32)) := w.n rfl
      have f4 : Fx (RS [1]) m0 (uI m 5 7 (0 : Int32)) := f.i rfl
      refine (s_X5_takeJoin w4 (Or.inl rfl)).to ?_
      rintro _ m1 ⟨w_m1, g5, v2, rfl, p6, p7⟩
      have f_m1 : Fx (RS [1]) m0 m1 := f4.tr g5 (RS_sub rfl)
      refine ⟨v2, rfl, ?_⟩
      refine ⟨?_, ?_⟩
      · exact bz_of (by omega) (by omega)
      · exact ⟨w_m1, f_m1, _, rfl, (by show (0 : Int) ≤ (v2).toInt; omega), (by show (v2).toInt ≤ (1 : Int); omega)⟩
    · intro c8
      have c9 : ¬ (m.1 5 8) = (0 : Int32) := c8
      have k10 := y_ner (n := 0) rfl c9
      have w11 : WT (uI m 5 7 (0 : Int32)) := w.n rfl
      have f11 : Fx (RS [1]) m0 (uI m 5 7 (0 : Int32)) := f.i rfl
      refine (s_X5_takeThing w11 (Or.inl rfl)).to ?_
      rintro _ m3 ⟨w_m3, g12, v4, rfl, p13, p14⟩
      have f_m3 : Fx (RS [1]) m0 m3 := f11.tr g12 (RS_sub rfl)
      refine ⟨v4, rfl, ?_⟩
      refine ⟨?_, ?_⟩
      · exact bz_of (by omega) (by omega)
      · exact ⟨w_m3, f_m3, _, rfl, (by show (0 : Int) ≤ (v4).toInt; omega), (by show (v4).toInt ≤ (1 : Int); omega)⟩
set_option maxHeartbeats 4000000 in
theorem s_X5_take_5 {ad : Nat → Nat} {d : Nat} {m : Wm} {x1 : Int32} (w : WT m) : Ct ad μX5_take (d + 3) [.ref (ad 5), .int x1] m (fun r m' => WT m' ∧ Fx (RS [1]) m m' ∧ ∃ v : Int32, r = some (.int v) ∧ (0 : Int) ≤ v.toInt ∧ v.toInt ≤ 1) := by
  have f : Fx (RS [1]) m m := Fx.rf
  refine v_X5_take Ru_5 ?_
  refine ⟨?_, ?_⟩
  · intro c1
    have k2 := y_ltr (n := 48) rfl c1
    exact (l_X5_take_5 (m0 := m) 1000000) _ _ w f (by show 0 * (x1).toInt < _; omega)
  · intro c3
    have k4 := y_nltr (n := 48) rfl c3
    refine ⟨?_, ?_⟩
    · intro c5
      have k6 := y_ltl (n := 57) rfl c5
      exact (l_X5_take_5 (m0 := m) 1000000) _ _ w f (by show 0 * (x1).toInt < _; omega)
    · intro c7
      have k8 := y_nltl (n := 57) rfl c7
      refine (s_X5_takeDigit w (Or.inl rfl)).to ?_
      rintro _ m1 ⟨w_m1, g9, v2, rfl, p10, p11⟩
      have f_m1 : Fx (RS [1]) m m1 := f.tr g9 (RS_sub rfl)
      refine ⟨v2, rfl, ?_⟩
      refine ⟨?_, ?_⟩
      · exact bz_of (by omega) (by omega)
      · exact ⟨w_m1, f_m1, _, rfl, (by show (0 : Int) ≤ (v2).toInt; omega), (by show (v2).toInt ≤ (1 : Int); omega)⟩
set_option maxHeartbeats 4000000 in
theorem l_X5_take_10 {ad : Nat → Nat} {d : Nat} {m0 : Wm}  : ∀ n : Nat, (∀ (m : Wm) (x1 : Int32), WT m → Fx (RS [1]) m0 m → 0 * x1.toInt < (n : Int) → AW ad E0 μX5_take (d + 3) (fun r m' => WT m' ∧ Fx (RS [1]) m0 m' ∧ ∃ v : Int32, r = some (.int v) ∧ (0 : Int) ≤ v.toInt ∧ v.toInt ≤ 1) 21 [(0, .ref (ad 10)), (1, .int x1)] [] m) := by
  intro n
  induction n with
  | zero =>
    intros
    exfalso
    omega
  | succ n ih =>
    intro m x1 w f  hn
    refine g_X5_take_21 Ru_10 ?_
    refine ⟨?_, ?_⟩
    · intro c1
      have c2 : (m.1 10 8) = (0 : Int32) := c1
      have k3 := y_eqr (n := 0) rfl c2
      have w4 : WT (uI m 10 7 (0 : Int32)) := w.n rfl
      have f4 : Fx (RS [1]) m0 (uI m 10 7 (0 : Int32)) := f.i rfl
      refine (s_X5_takeJoin w4 (Or.inr rfl)).to ?_
      rintro _ m1 ⟨w_m1, g5, v2, rfl, p6, p7⟩
      have f_m1 : Fx (RS [1]) m0 m1 := f4.tr g5 (RS_sub rfl)
      refine ⟨v2, rfl, ?_⟩
      refine ⟨?_, ?_⟩
      · exact bz_of (by omega) (by omega)
      · exact ⟨w_m1, f_m1, _, rfl, (by show (0 : Int) ≤ (v2).toInt; omega), (by show (v2).toInt ≤ (1 : Int); omega)⟩
    · intro c8
      have c9 : ¬ (m.1 10 8) = (0 : Int32) := c8
      have k10 := y_ner (n := 0) rfl c9
      have w11 : WT (uI m 10 7 (0 : Int32)) := w.n rfl
      have f11 : Fx (RS [1]) m0 (uI m 10 7 (0 : Int32)) := f.i rfl
      refine (s_X5_takeThing w11 (Or.inr rfl)).to ?_
      rintro _ m3 ⟨w_m3, g12, v4, rfl, p13, p14⟩
      have f_m3 : Fx (RS [1]) m0 m3 := f11.tr g12 (RS_sub rfl)
      refine ⟨v4, rfl, ?_⟩
      refine ⟨?_, ?_⟩
      · exact bz_of (by omega) (by omega)
      · exact ⟨w_m3, f_m3, _, rfl, (by show (0 : Int) ≤ (v4).toInt; omega), (by show (v4).toInt ≤ (1 : Int); omega)⟩
set_option maxHeartbeats 4000000 in
theorem s_X5_take_10 {ad : Nat → Nat} {d : Nat} {m : Wm} {x1 : Int32} (w : WT m) : Ct ad μX5_take (d + 3) [.ref (ad 10), .int x1] m (fun r m' => WT m' ∧ Fx (RS [1]) m m' ∧ ∃ v : Int32, r = some (.int v) ∧ (0 : Int) ≤ v.toInt ∧ v.toInt ≤ 1) := by
  have f : Fx (RS [1]) m m := Fx.rf
  refine v_X5_take Ru_10 ?_
  refine ⟨?_, ?_⟩
  · intro c1
    have k2 := y_ltr (n := 48) rfl c1
    exact (l_X5_take_10 (m0 := m) 1000000) _ _ w f (by show 0 * (x1).toInt < _; omega)
  · intro c3
    have k4 := y_nltr (n := 48) rfl c3
    refine ⟨?_, ?_⟩
    · intro c5
      have k6 := y_ltl (n := 57) rfl c5
      exact (l_X5_take_10 (m0 := m) 1000000) _ _ w f (by show 0 * (x1).toInt < _; omega)
    · intro c7
      have k8 := y_nltl (n := 57) rfl c7
      refine (s_X5_takeDigit w (Or.inr rfl)).to ?_
      rintro _ m1 ⟨w_m1, g9, v2, rfl, p10, p11⟩
      have f_m1 : Fx (RS [1]) m m1 := f.tr g9 (RS_sub rfl)
      refine ⟨v2, rfl, ?_⟩
      refine ⟨?_, ?_⟩
      · exact bz_of (by omega) (by omega)
      · exact ⟨w_m1, f_m1, _, rfl, (by show (0 : Int) ≤ (v2).toInt; omega), (by show (v2).toInt ≤ (1 : Int); omega)⟩
theorem s_X5_take {ad : Nat → Nat} {d : Nat} {m : Wm} {b0 : Nat} {x1 : Int32} (w : WT m) (hb0 : b0 = 5 ∨ b0 = 10) : Ct ad μX5_take (d + 3) [.ref (ad b0), .int x1] m (fun r m' => WT m' ∧ Fx (RS [1]) m m' ∧ ∃ v : Int32, r = some (.int v) ∧ (0 : Int) ≤ v.toInt ∧ v.toInt ≤ 1) := by
  rcases hb0 with rfl | rfl
  · exact s_X5_take_5 w
  · exact s_X5_take_10 w
set_option maxHeartbeats 4000000 in
theorem l_X5_compile_5 {ad : Nat → Nat} {d : Nat} {m0 : Wm}  : ∀ n : Nat, (∀ (m : Wm) (x2 x3 : Int32), WT m → Fx (RS [1]) m0 m → (0 : Int) ≤ x2.toInt → x2.toInt ≤ (40 : Int) → (0 : Int) ≤ x3.toInt → x3.toInt ≤ (40 : Int) → 40 - x3.toInt < (n : Int) → AW ad E0 μX5_compile (d + 4) (fun r m' => WT m' ∧ Fx (RS [1]) m0 m' ∧ ∃ v : Int32, r = some (.int v)) 53 [(0, .ref (ad 5)), (1, .ref (ad 1)), (2, .int x2), (3, .int x3)] [] m) := by
  intro n
  induction n with
  | zero =>
    intros
    exfalso
    omega
  | succ n ih =>
    intro m x2 x3 w f j1 j2 j3 j4 hn
    refine g_X5_compile_53 Ru_5 ?_
    refine ⟨?_, ?_⟩
    · intro c1
      have k2 := z_le c1
      refine ⟨?_, ?_⟩
      · intro c3
        have r4 := w.at (a := 1) (k := 1) rfl
        have k5 := y_ltl (n := 40) rfl c3
        exact ⟨w, f, _, rfl⟩
      · intro c6
        have r7 := w.at (a := 1) (k := 1) rfl
        have k8 := y_nltl (n := 40) rfl c6
        refine ⟨?_, ?_⟩
        · intro c9
          have k10 := y_ner (n := 0) rfl c9
          exact ⟨w, f, _, rfl⟩
        · intro c11
          have k12 := y_eqr (n := 0) rfl c11
          refine ⟨?_, ?_⟩
          · intro c13
            have r14 := w.at (a := 5) (k := 6) rfl
            have k15 := y_ler (n := 0) rfl c13
            refine (s_X5_release w (Or.inl rfl)).to ?_
            rintro _ m1 ⟨w_m1, g16, rfl, p17⟩
            have f_m1 : Fx (RS [1]) m0 m1 := f.tr g16 (RS_sub rfl)
            have p18 : (m1.1 5 6).toInt = ((m.1 5 6)).toInt := p17
            clear p17
            refine ⟨rfl, ?_⟩
            exact ⟨w_m1, f_m1, _, rfl⟩
          · intro c19
            have r20 := w.at (a := 5) (k := 6) rfl
            have k21 := y_nler (n := 0) rfl c19
            exact ⟨w, f, _, rfl⟩
    · intro c22
      have k23 := z_nle c22
      refine ⟨?_, ?_⟩
      · exact vpi (by omega) (by omega)
      · refine (s_X5_take w (Or.inl rfl)).to ?_
        rintro _ m2 ⟨w_m2, g24, v3, rfl, p25, p26⟩
        have f_m2 : Fx (RS [1]) m0 m2 := f.tr g24 (RS_sub rfl)
        refine ⟨v3, rfl, ?_⟩
        refine ⟨?_, ?_⟩
        · intro c27
          have k28 := y_ner (n := 0) rfl c27
          have t29 := ti_addc (x := x3) (y := (1 : Int32)) (c := 1) rfl (by omega)
          exact ih _ _ _ w_m2 f_m2 (by show (0 : Int) ≤ (x2).toInt; omega) (by show (x2).toInt ≤ (40 : Int); omega) (by show (0 : Int) ≤ ((x3 + (1 : Int32))).toInt; omega) (by show ((x3 + (1 : Int32))).toInt ≤ (40 : Int); omega) (by show 40 - ((x3 + (1 : Int32))).toInt < _; omega)
        · intro c30
          have k31 := y_eqr (n := 0) rfl c30
          exact ⟨w_m2, f_m2, _, rfl⟩
set_option maxHeartbeats 4000000 in
theorem s_X5_compile_5 {ad : Nat → Nat} {d : Nat} {m : Wm} (w : WT m) : Ct ad μX5_compile (d + 4) [.ref (ad 5), .ref (ad 1)] m (fun r m' => WT m' ∧ Fx (RS [1]) m m' ∧ ∃ v : Int32, r = some (.int v)) := by
  have f : Fx (RS [1]) m m := Fx.rf
  refine v_X5_compile Ru_5 ?_
  refine ⟨?_, ?_⟩
  · intro c1
    have r2 := w.at (a := 1) (k := 1) rfl
    have c3 : ¬ (m.1 1 1) = (0 : Int32) := c1
    have k4 := y_ner (n := 0) rfl c3
    have w5 : WT (uI m 5 4 (0 : Int32)) := w.t rfl (by show (0 : Int) ≤ (0 : Int); omega) (by show (0 : Int) ≤ 40; omega)
    have f5 : Fx (RS [1]) m (uI m 5 4 (0 : Int32)) := f.i rfl
    have w6 : WT (uI (uI m 5 4 (0 : Int32)) 5 5 (0 : Int32)) := w5.t rfl (by show (0 : Int) ≤ (0 : Int); omega) (by show (0 : Int) ≤ 40; omega)
    have f6 : Fx (RS [1]) m (uI (uI m 5 4 (0 : Int32)) 5 5 (0 : Int32)) := f5.i rfl
    have w7 : WT (uI (uI (uI m 5 4 (0 : Int32)) 5 5 (0 : Int32)) 5 6 (0 : Int32)) := w6.t rfl (by show (0 : Int) ≤ (0 : Int); omega) (by show (0 : Int) ≤ 4; omega)
    have f7 : Fx (RS [1]) m (uI (uI (uI m 5 4 (0 : Int32)) 5 5 (0 : Int32)) 5 6 (0 : Int32)) := f6.i rfl
    have w8 : WT (uI (uI (uI (uI m 5 4 (0 : Int32)) 5 5 (0 : Int32)) 5 6 (0 : Int32)) 5 7 (0 : Int32)) := w7.n rfl
    have f8 : Fx (RS [1]) m (uI (uI (uI (uI m 5 4 (0 : Int32)) 5 5 (0 : Int32)) 5 6 (0 : Int32)) 5 7 (0 : Int32)) := f7.i rfl
    have w9 : WT (uI (uI (uI (uI (uI m 5 4 (0 : Int32)) 5 5 (0 : Int32)) 5 6 (0 : Int32)) 5 7 (0 : Int32)) 5 8 (1 : Int32)) := w8.n rfl
    have f9 : Fx (RS [1]) m (uI (uI (uI (uI (uI m 5 4 (0 : Int32)) 5 5 (0 : Int32)) 5 6 (0 : Int32)) 5 7 (0 : Int32)) 5 8 (1 : Int32)) := f8.i rfl
    have w10 : WT (uI (uI (uI (uI (uI (uI m 5 4 (0 : Int32)) 5 5 (0 : Int32)) 5 6 (0 : Int32)) 5 7 (0 : Int32)) 5 8 (1 : Int32)) (5 + 4) ((0 : Int32).toNatClampNeg) (vp_nar .boolean (0 : Int32))) := w9.n rfl
    have f10 : Fx (RS [1]) m (uI (uI (uI (uI (uI (uI m 5 4 (0 : Int32)) 5 5 (0 : Int32)) 5 6 (0 : Int32)) 5 7 (0 : Int32)) 5 8 (1 : Int32)) (5 + 4) ((0 : Int32).toNatClampNeg) (vp_nar .boolean (0 : Int32))) := f9.i rfl
    have t11 := ti_ltv (a := (40 : Int32)) (b := (m.1 1 1)) (c := (40 : Int32)) (d := (m.1 1 1)) (A := (40)) (B := (m.1 1 1).toInt) (C := (40)) (D := (m.1 1 1).toInt) rfl rfl rfl rfl
    exact (l_X5_compile_5 (m0 := m) 1000000) _ _ _ w10 f10 (by show (0 : Int) ≤ ((if (40 : Int32) < (m.1 1 1) then (40 : Int32) else (m.1 1 1))).toInt; omega) (by show ((if (40 : Int32) < (m.1 1 1) then (40 : Int32) else (m.1 1 1))).toInt ≤ (40 : Int); omega) (by show (0 : Int) ≤ (0 : Int); omega) (by show (0 : Int) ≤ (40 : Int); omega) (by show 40 - (0 : Int) < _; omega)
  · intro c12
    have r13 := w.at (a := 1) (k := 1) rfl
    have c14 : (m.1 1 1) = (0 : Int32) := c12
    have k15 := y_eqr (n := 0) rfl c14
    have w16 : WT (uI m 5 4 (0 : Int32)) := w.t rfl (by show (0 : Int) ≤ (0 : Int); omega) (by show (0 : Int) ≤ 40; omega)
    have f16 : Fx (RS [1]) m (uI m 5 4 (0 : Int32)) := f.i rfl
    have w17 : WT (uI (uI m 5 4 (0 : Int32)) 5 5 (0 : Int32)) := w16.t rfl (by show (0 : Int) ≤ (0 : Int); omega) (by show (0 : Int) ≤ 40; omega)
    have f17 : Fx (RS [1]) m (uI (uI m 5 4 (0 : Int32)) 5 5 (0 : Int32)) := f16.i rfl
    have w18 : WT (uI (uI (uI m 5 4 (0 : Int32)) 5 5 (0 : Int32)) 5 6 (0 : Int32)) := w17.t rfl (by show (0 : Int) ≤ (0 : Int); omega) (by show (0 : Int) ≤ 4; omega)
    have f18 : Fx (RS [1]) m (uI (uI (uI m 5 4 (0 : Int32)) 5 5 (0 : Int32)) 5 6 (0 : Int32)) := f17.i rfl
    have w19 : WT (uI (uI (uI (uI m 5 4 (0 : Int32)) 5 5 (0 : Int32)) 5 6 (0 : Int32)) 5 7 (0 : Int32)) := w18.n rfl
    have f19 : Fx (RS [1]) m (uI (uI (uI (uI m 5 4 (0 : Int32)) 5 5 (0 : Int32)) 5 6 (0 : Int32)) 5 7 (0 : Int32)) := f18.i rfl
    have w20 : WT (uI (uI (uI (uI (uI m 5 4 (0 : Int32)) 5 5 (0 : Int32)) 5 6 (0 : Int32)) 5 7 (0 : Int32)) 5 8 (1 : Int32)) := w19.n rfl
    have f20 : Fx (RS [1]) m (uI (uI (uI (uI (uI m 5 4 (0 : Int32)) 5 5 (0 : Int32)) 5 6 (0 : Int32)) 5 7 (0 : Int32)) 5 8 (1 : Int32)) := f19.i rfl
    have w21 : WT (uI (uI (uI (uI (uI (uI m 5 4 (0 : Int32)) 5 5 (0 : Int32)) 5 6 (0 : Int32)) 5 7 (0 : Int32)) 5 8 (1 : Int32)) (5 + 4) ((0 : Int32).toNatClampNeg) (vp_nar .boolean (0 : Int32))) := w20.n rfl
    have f21 : Fx (RS [1]) m (uI (uI (uI (uI (uI (uI m 5 4 (0 : Int32)) 5 5 (0 : Int32)) 5 6 (0 : Int32)) 5 7 (0 : Int32)) 5 8 (1 : Int32)) (5 + 4) ((0 : Int32).toNatClampNeg) (vp_nar .boolean (0 : Int32))) := f20.i rfl
    exact ⟨w21, f21, _, rfl⟩
set_option maxHeartbeats 4000000 in
theorem l_X5_compile_10 {ad : Nat → Nat} {d : Nat} {m0 : Wm}  : ∀ n : Nat, (∀ (m : Wm) (x2 x3 : Int32), WT m → Fx (RS [1]) m0 m → (0 : Int) ≤ x2.toInt → x2.toInt ≤ (40 : Int) → (0 : Int) ≤ x3.toInt → x3.toInt ≤ (40 : Int) → 40 - x3.toInt < (n : Int) → AW ad E0 μX5_compile (d + 4) (fun r m' => WT m' ∧ Fx (RS [1]) m0 m' ∧ ∃ v : Int32, r = some (.int v)) 53 [(0, .ref (ad 10)), (1, .ref (ad 1)), (2, .int x2), (3, .int x3)] [] m) := by
  intro n
  induction n with
  | zero =>
    intros
    exfalso
    omega
  | succ n ih =>
    intro m x2 x3 w f j1 j2 j3 j4 hn
    refine g_X5_compile_53 Ru_10 ?_
    refine ⟨?_, ?_⟩
    · intro c1
      have k2 := z_le c1
      refine ⟨?_, ?_⟩
      · intro c3
        have r4 := w.at (a := 1) (k := 1) rfl
        have k5 := y_ltl (n := 40) rfl c3
        exact ⟨w, f, _, rfl⟩
      · intro c6
        have r7 := w.at (a := 1) (k := 1) rfl
        have k8 := y_nltl (n := 40) rfl c6
        refine ⟨?_, ?_⟩
        · intro c9
          have k10 := y_ner (n := 0) rfl c9
          exact ⟨w, f, _, rfl⟩
        · intro c11
          have k12 := y_eqr (n := 0) rfl c11
          refine ⟨?_, ?_⟩
          · intro c13
            have r14 := w.at (a := 10) (k := 6) rfl
            have k15 := y_ler (n := 0) rfl c13
            refine (s_X5_release w (Or.inr rfl)).to ?_
            rintro _ m1 ⟨w_m1, g16, rfl, p17⟩
            have f_m1 : Fx (RS [1]) m0 m1 := f.tr g16 (RS_sub rfl)
            have p18 : (m1.1 10 6).toInt = ((m.1 10 6)).toInt := p17
            clear p17
            refine ⟨rfl, ?_⟩
            exact ⟨w_m1, f_m1, _, rfl⟩
          · intro c19
            have r20 := w.at (a := 10) (k := 6) rfl
            have k21 := y_nler (n := 0) rfl c19
            exact ⟨w, f, _, rfl⟩
    · intro c22
      have k23 := z_nle c22
      refine ⟨?_, ?_⟩
      · exact vpi (by omega) (by omega)
      · refine (s_X5_take w (Or.inr rfl)).to ?_
        rintro _ m2 ⟨w_m2, g24, v3, rfl, p25, p26⟩
        have f_m2 : Fx (RS [1]) m0 m2 := f.tr g24 (RS_sub rfl)
        refine ⟨v3, rfl, ?_⟩
        refine ⟨?_, ?_⟩
        · intro c27
          have k28 := y_ner (n := 0) rfl c27
          have t29 := ti_addc (x := x3) (y := (1 : Int32)) (c := 1) rfl (by omega)
          exact ih _ _ _ w_m2 f_m2 (by show (0 : Int) ≤ (x2).toInt; omega) (by show (x2).toInt ≤ (40 : Int); omega) (by show (0 : Int) ≤ ((x3 + (1 : Int32))).toInt; omega) (by show ((x3 + (1 : Int32))).toInt ≤ (40 : Int); omega) (by show 40 - ((x3 + (1 : Int32))).toInt < _; omega)
        · intro c30
          have k31 := y_eqr (n := 0) rfl c30
          exact ⟨w_m2, f_m2, _, rfl⟩
set_option maxHeartbeats 4000000 in
theorem s_X5_compile_10 {ad : Nat → Nat} {d : Nat} {m : Wm} (w : WT m) : Ct ad μX5_compile (d + 4) [.ref (ad 10), .ref (ad 1)] m (fun r m' => WT m' ∧ Fx (RS [1]) m m' ∧ ∃ v : Int32, r = some (.int v)) := by
  have f : Fx (RS [1]) m m := Fx.rf
  refine v_X5_compile Ru_10 ?_
  refine ⟨?_, ?_⟩
  · intro c1
    have r2 := w.at (a := 1) (k := 1) rfl
    have c3 : ¬ (m.1 1 1) = (0 : Int32) := c1
    have k4 := y_ner (n := 0) rfl c3
    have w5 : WT (uI m 10 4 (0 : Int32)) := w.t rfl (by show (0 : Int) ≤ (0 : Int); omega) (by show (0 : Int) ≤ 40; omega)
    have f5 : Fx (RS [1]) m (uI m 10 4 (0 : Int32)) := f.i rfl
    have w6 : WT (uI (uI m 10 4 (0 : Int32)) 10 5 (0 : Int32)) := w5.t rfl (by show (0 : Int) ≤ (0 : Int); omega) (by show (0 : Int) ≤ 40; omega)
    have f6 : Fx (RS [1]) m (uI (uI m 10 4 (0 : Int32)) 10 5 (0 : Int32)) := f5.i rfl
    have w7 : WT (uI (uI (uI m 10 4 (0 : Int32)) 10 5 (0 : Int32)) 10 6 (0 : Int32)) := w6.t rfl (by show (0 : Int) ≤ (0 : Int); omega) (by show (0 : Int) ≤ 4; omega)
    have f7 : Fx (RS [1]) m (uI (uI (uI m 10 4 (0 : Int32)) 10 5 (0 : Int32)) 10 6 (0 : Int32)) := f6.i rfl
    have w8 : WT (uI (uI (uI (uI m 10 4 (0 : Int32)) 10 5 (0 : Int32)) 10 6 (0 : Int32)) 10 7 (0 : Int32)) := w7.n rfl
    have f8 : Fx (RS [1]) m (uI (uI (uI (uI m 10 4 (0 : Int32)) 10 5 (0 : Int32)) 10 6 (0 : Int32)) 10 7 (0 : Int32)) := f7.i rfl
    have w9 : WT (uI (uI (uI (uI (uI m 10 4 (0 : Int32)) 10 5 (0 : Int32)) 10 6 (0 : Int32)) 10 7 (0 : Int32)) 10 8 (1 : Int32)) := w8.n rfl
    have f9 : Fx (RS [1]) m (uI (uI (uI (uI (uI m 10 4 (0 : Int32)) 10 5 (0 : Int32)) 10 6 (0 : Int32)) 10 7 (0 : Int32)) 10 8 (1 : Int32)) := f8.i rfl
    have w10 : WT (uI (uI (uI (uI (uI (uI m 10 4 (0 : Int32)) 10 5 (0 : Int32)) 10 6 (0 : Int32)) 10 7 (0 : Int32)) 10 8 (1 : Int32)) (10 + 4) ((0 : Int32).toNatClampNeg) (vp_nar .boolean (0 : Int32))) := w9.n rfl
    have f10 : Fx (RS [1]) m (uI (uI (uI (uI (uI (uI m 10 4 (0 : Int32)) 10 5 (0 : Int32)) 10 6 (0 : Int32)) 10 7 (0 : Int32)) 10 8 (1 : Int32)) (10 + 4) ((0 : Int32).toNatClampNeg) (vp_nar .boolean (0 : Int32))) := f9.i rfl
    have t11 := ti_ltv (a := (40 : Int32)) (b := (m.1 1 1)) (c := (40 : Int32)) (d := (m.1 1 1)) (A := (40)) (B := (m.1 1 1).toInt) (C := (40)) (D := (m.1 1 1).toInt) rfl rfl rfl rfl
    exact (l_X5_compile_10 (m0 := m) 1000000) _ _ _ w10 f10 (by show (0 : Int) ≤ ((if (40 : Int32) < (m.1 1 1) then (40 : Int32) else (m.1 1 1))).toInt; omega) (by show ((if (40 : Int32) < (m.1 1 1) then (40 : Int32) else (m.1 1 1))).toInt ≤ (40 : Int); omega) (by show (0 : Int) ≤ (0 : Int); omega) (by show (0 : Int) ≤ (40 : Int); omega) (by show 40 - (0 : Int) < _; omega)
  · intro c12
    have r13 := w.at (a := 1) (k := 1) rfl
    have c14 : (m.1 1 1) = (0 : Int32) := c12
    have k15 := y_eqr (n := 0) rfl c14
    have w16 : WT (uI m 10 4 (0 : Int32)) := w.t rfl (by show (0 : Int) ≤ (0 : Int); omega) (by show (0 : Int) ≤ 40; omega)
    have f16 : Fx (RS [1]) m (uI m 10 4 (0 : Int32)) := f.i rfl
    have w17 : WT (uI (uI m 10 4 (0 : Int32)) 10 5 (0 : Int32)) := w16.t rfl (by show (0 : Int) ≤ (0 : Int); omega) (by show (0 : Int) ≤ 40; omega)
    have f17 : Fx (RS [1]) m (uI (uI m 10 4 (0 : Int32)) 10 5 (0 : Int32)) := f16.i rfl
    have w18 : WT (uI (uI (uI m 10 4 (0 : Int32)) 10 5 (0 : Int32)) 10 6 (0 : Int32)) := w17.t rfl (by show (0 : Int) ≤ (0 : Int); omega) (by show (0 : Int) ≤ 4; omega)
    have f18 : Fx (RS [1]) m (uI (uI (uI m 10 4 (0 : Int32)) 10 5 (0 : Int32)) 10 6 (0 : Int32)) := f17.i rfl
    have w19 : WT (uI (uI (uI (uI m 10 4 (0 : Int32)) 10 5 (0 : Int32)) 10 6 (0 : Int32)) 10 7 (0 : Int32)) := w18.n rfl
    have f19 : Fx (RS [1]) m (uI (uI (uI (uI m 10 4 (0 : Int32)) 10 5 (0 : Int32)) 10 6 (0 : Int32)) 10 7 (0 : Int32)) := f18.i rfl
    have w20 : WT (uI (uI (uI (uI (uI m 10 4 (0 : Int32)) 10 5 (0 : Int32)) 10 6 (0 : Int32)) 10 7 (0 : Int32)) 10 8 (1 : Int32)) := w19.n rfl
    have f20 : Fx (RS [1]) m (uI (uI (uI (uI (uI m 10 4 (0 : Int32)) 10 5 (0 : Int32)) 10 6 (0 : Int32)) 10 7 (0 : Int32)) 10 8 (1 : Int32)) := f19.i rfl
    have w21 : WT (uI (uI (uI (uI (uI (uI m 10 4 (0 : Int32)) 10 5 (0 : Int32)) 10 6 (0 : Int32)) 10 7 (0 : Int32)) 10 8 (1 : Int32)) (10 + 4) ((0 : Int32).toNatClampNeg) (vp_nar .boolean (0 : Int32))) := w20.n rfl
    have f21 : Fx (RS [1]) m (uI (uI (uI (uI (uI (uI m 10 4 (0 : Int32)) 10 5 (0 : Int32)) 10 6 (0 : Int32)) 10 7 (0 : Int32)) 10 8 (1 : Int32)) (10 + 4) ((0 : Int32).toNatClampNeg) (vp_nar .boolean (0 : Int32))) := f20.i rfl
    exact ⟨w21, f21, _, rfl⟩
theorem s_X5_compile {ad : Nat → Nat} {d : Nat} {m : Wm} {b0 : Nat} (w : WT m) (hb0 : b0 = 5 ∨ b0 = 10) : Ct ad μX5_compile (d + 4) [.ref (ad b0), .ref (ad 1)] m (fun r m' => WT m' ∧ Fx (RS [1]) m m' ∧ ∃ v : Int32, r = some (.int v)) := by
  rcases hb0 with rfl | rfl
  · exact s_X5_compile_5 w
  · exact s_X5_compile_10 w
end
section
/-! SAFETY OF THE CLASS, BY PROGRAM (X9_clear .. X10_cut) -/
set_option maxHeartbeats 4000000 in
theorem l_X9_clear {ad : Nat → Nat} {d : Nat} {m0 : Wm}  : ∀ n : Nat, (∀ (m : Wm) (x1 : Int32), WT m → Fx (RS [10]) m0 m → (0 : Int) ≤ x1.toInt → x1.toInt ≤ (3000 : Int) → 3000 - x1.toInt < (n : Int) → AW ad E0 μX9_clear d (fun r m' => WT m' ∧ Fx (RS [10]) m0 m' ∧ r = none ∧ ((m'.1 151 4).toInt = 0)) 2 [(0, .ref (ad 151)), (1, .int x1)] [] m) := by
  intro n
  induction n with
  | zero =>
    intros
    exfalso
    omega
  | succ n ih =>
    intro m x1 w f j1 j2 hn
    refine g_X9_clear_2  ?_
    refine ⟨?_, ?_⟩
    · intro c1
      have r2 := w.at (a := 151) (k := 4) rfl
      have k3 := z_le c1
      have w4 : WT (uI m 151 4 (0 : Int32)) := w.t rfl (by show (0 : Int) ≤ (0 : Int); omega) (by show (0 : Int) ≤ 3000; omega)
      have f4 : Fx (RS [10]) m0 (uI m 151 4 (0 : Int32)) := f.i rfl
      exact ⟨w4, f4, rfl, (by show (0 : Int) = 0; omega)⟩
    · intro c5
      have r6 := w.at (a := 151) (k := 4) rfl
      have k7 := z_nle c5
      refine ⟨?_, ?_⟩
      · exact vpi (by omega) (by omega)
      · refine ⟨?_, ?_⟩
        · have r8 := w.at (a := 155) (k := x1.toNatClampNeg) rfl
          exact vpi (by omega) (by omega)
        · have w9 : WT (uI m 154 ((m.1 155 x1.toNatClampNeg).toNatClampNeg) (0 : Int32)) := w.t rfl (by show (0 : Int) ≤ (0 : Int); omega) (by show (0 : Int) ≤ 3000; omega)
          have f9 : Fx (RS [10]) m0 (uI m 154 ((m.1 155 x1.toNatClampNeg).toNatClampNeg) (0 : Int32)) := f.i rfl
          have t10 := ti_addc (x := x1) (y := (1 : Int32)) (c := 1) rfl (by omega)
          exact ih _ _ w9 f9 (by show (0 : Int) ≤ ((x1 + (1 : Int32))).toInt; omega) (by show ((x1 + (1 : Int32))).toInt ≤ (3000 : Int); omega) (by show 3000 - ((x1 + (1 : Int32))).toInt < _; omega)
set_option maxHeartbeats 4000000 in
theorem s_X9_clear {ad : Nat → Nat} {d : Nat} {m : Wm} (w : WT m) : Ct ad μX9_clear d [.ref (ad 151)] m (fun r m' => WT m' ∧ Fx (RS [10]) m m' ∧ r = none ∧ ((m'.1 151 4).toInt = 0)) := by
  have f : Fx (RS [10]) m m := Fx.rf
  refine v_X9_clear  ?_
  exact (l_X9_clear (m0 := m) 1000000) _ _ w f (by show (0 : Int) ≤ (0 : Int); omega) (by show (0 : Int) ≤ (3000 : Int); omega) (by show 3000 - (0 : Int) < _; omega)
set_option maxHeartbeats 4000000 in
theorem l_X9_put {ad : Nat → Nat} {d : Nat} {m0 : Wm}  : ∀ n : Nat, (∀ (m : Wm) (x5 x6 : Int32) (y1 y3 : Int64), WT m → Fx (RS [10]) m0 m → (0 : Int) ≤ x5.toInt → x5.toInt ≤ (8191 : Int) → (0 : Int) ≤ x6.toInt → x6.toInt ≤ (8192 : Int) → ((m.1 151 4).toInt = (m0.1 151 4).toInt) → ((m.1 151 5).toInt = 0) → (8192 - x6.toInt) * 2 + 1 < (n : Int) → AW ad E0 μX9_put d (fun r m' => WT m' ∧ Fx (RS [10]) m0 m' ∧ ∃ v : Int32, r = some (.int v) ∧ (-1 : Int) ≤ v.toInt ∧ v.toInt ≤ 2999 ∧ ((m0.1 151 4).toInt ≤ (m'.1 151 4).toInt) ∧ ((m'.1 151 4).toInt ≤ (m0.1 151 4).toInt + 1) ∧ ((m'.1 151 5).toInt = 0 ∨ v.toInt = (m0.1 151 4).toInt) ∧ (3000 ≤ (m0.1 151 4).toInt ∨ 0 ≤ v.toInt)) 29 [(0, .ref (ad 151)), (1, .long y1), (3, .long y3), (5, .int x5), (6, .int x6)] [] m) ∧ (∀ (m : Wm) (x5 x6 : Int32) (y1 y3 : Int64), WT m → Fx (RS [10]) m0 m → (0 : Int) ≤ x5.toInt → x5.toInt ≤ (8191 : Int) → (0 : Int) ≤ x6.toInt → x6.toInt ≤ (8191 : Int) → ((m.1 151 4).toInt = (m0.1 151 4).toInt) → ((m.1 151 5).toInt = 0) → (8192 - x6.toInt) * 2 < (n : Int) → AW ad E0 μX9_put d (fun r m' => WT m' ∧ Fx (RS [10]) m0 m' ∧ ∃ v : Int32, r = some (.int v) ∧ (-1 : Int) ≤ v.toInt ∧ v.toInt ≤ 2999 ∧ ((m0.1 151 4).toInt ≤ (m'.1 151 4).toInt) ∧ ((m'.1 151 4).toInt ≤ (m0.1 151 4).toInt + 1) ∧ ((m'.1 151 5).toInt = 0 ∨ v.toInt = (m0.1 151 4).toInt) ∧ (3000 ≤ (m0.1 151 4).toInt ∨ 0 ≤ v.toInt)) 85 [(0, .ref (ad 151)), (1, .long y1), (3, .long y3), (5, .int x5), (6, .int x6)] [] m) ∧ (∀ (m : Wm) (x5 : Int32) (y1 y3 : Int64), WT m → Fx (RS [10]) m0 m → (0 : Int) ≤ x5.toInt → x5.toInt ≤ (8191 : Int) → ((m.1 151 4).toInt = (m0.1 151 4).toInt) → ((m.1 151 5).toInt = 0) → 0 * x5.toInt < (n : Int) → AW ad E0 μX9_put d (fun r m' => WT m' ∧ Fx (RS [10]) m0 m' ∧ ∃ v : Int32, r = some (.int v) ∧ (-1 : Int) ≤ v.toInt ∧ v.toInt ≤ 2999 ∧ ((m0.1 151 4).toInt ≤ (m'.1 151 4).toInt) ∧ ((m'.1 151 4).toInt ≤ (m0.1 151 4).toInt + 1) ∧ ((m'.1 151 5).toInt = 0 ∨ v.toInt = (m0.1 151 4).toInt) ∧ (3000 ≤ (m0.1 151 4).toInt ∨ 0 ≤ v.toInt)) 101 [(0, .ref (ad 151)), (1, .long y1), (3, .long y3), (5, .int x5)] [] m) := by
  intro n
  induction n with
  | zero =>
    refine ⟨?_, ?_, ?_⟩ <;> intros <;> exfalso <;> omega
  | succ n ih =>
    refine ⟨?_, ?_, ?_⟩
    · intro m x5 x6 y1 y3 w f j1 j2 j3 j4 j5 j6 hn
      refine g_X9_put_29  ?_
      refine ⟨?_, ?_⟩
      · intro c1
        have k2 := y_lel (n := 8192) rfl c1
        have r3 := w.at (a := 151) (k := 4) rfl
        exact ih.2.2 _ _ _ _ w f (by show (0 : Int) ≤ (x5).toInt; omega) (by show (x5).toInt ≤ (8191 : Int); omega) (by show ((m.1 151 4)).toInt = (m0.1 151 4).toInt; omega) (by show ((m.1 151 5)).toInt = 0; omega) (by show 0 * (x5).toInt < _; omega)
      · intro c4
        have k5 := y_nlel (n := 8192) rfl c4
        refine ⟨?_, ?_⟩
        · exact vpi (by omega) (by omega)
        · refine ⟨?_, ?_⟩
          · intro c6
            have r7 := w.at (a := 154) (k := x5.toNatClampNeg) rfl
            have k8 := y_eqr (n := 0) rfl c6
            have r9 := w.at (a := 151) (k := 4) rfl
            exact ih.2.2 _ _ _ _ w f (by show (0 : Int) ≤ (x5).toInt; omega) (by show (x5).toInt ≤ (8191 : Int); omega) (by show ((m.1 151 4)).toInt = (m0.1 151 4).toInt; omega) (by show ((m.1 151 5)).toInt = 0; omega) (by show 0 * (x5).toInt < _; omega)
          · intro c10
            have r11 := w.at (a := 154) (k := x5.toNatClampNeg) rfl
            have k12 := y_ner (n := 0) rfl c10
            refine ⟨?_, ?_⟩
            · exact vpi (by omega) (by omega)
            · refine ⟨?_, ?_⟩
              · have t13 := ti_subc (x := (m.1 154 x5.toNatClampNeg)) (y := (1 : Int32)) (c := 1) rfl (by omega)
                exact vpi (by omega) (by omega)
              · refine ⟨?_, ?_⟩
                · intro c14
                  have r15 := w.at (a := 151) (k := 4) rfl
                  exact ih.2.1 _ _ _ _ _ w f (by show (0 : Int) ≤ (x5).toInt; omega) (by show (x5).toInt ≤ (8191 : Int); omega) (by show (0 : Int) ≤ (x6).toInt; omega) (by show (x6).toInt ≤ (8191 : Int); omega) (by show ((m.1 151 4)).toInt = (m0.1 151 4).toInt; omega) (by show ((m.1 151 5)).toInt = 0; omega) (by show (8192 - (x6).toInt) * 2 < _; omega)
                · intro c16
                  refine ⟨?_, ?_⟩
                  · have t17 := ti_subc (x := (m.1 154 x5.toNatClampNeg)) (y := (1 : Int32)) (c := 1) rfl (by omega)
                    exact vpi (by omega) (by omega)
                  · refine ⟨?_, ?_⟩
                    · intro c18
                      have r19 := w.at (a := 151) (k := 4) rfl
                      exact ih.2.1 _ _ _ _ _ w f (by show (0 : Int) ≤ (x5).toInt; omega) (by show (x5).toInt ≤ (8191 : Int); omega) (by show (0 : Int) ≤ (x6).toInt; omega) (by show (x6).toInt ≤ (8191 : Int); omega) (by show ((m.1 151 4)).toInt = (m0.1 151 4).toInt; omega) (by show ((m.1 151 5)).toInt = 0; omega) (by show (8192 - (x6).toInt) * 2 < _; omega)
                    · intro c20
                      have t21 := ti_subc (x := (m.1 154 x5.toNatClampNeg)) (y := (1 : Int32)) (c := 1) rfl (by omega)
                      have r22 := w.at (a := 151) (k := 4) rfl
                      exact ⟨w, f, _, rfl, (by show (-1 : Int) ≤ (((m.1 154 x5.toNatClampNeg) - (1 : Int32))).toInt; omega), (by show (((m.1 154 x5.toNatClampNeg) - (1 : Int32))).toInt ≤ (2999 : Int); omega), (by show (m0.1 151 4).toInt ≤ ((m.1 151 4)).toInt; omega), (by show ((m.1 151 4)).toInt ≤ (m0.1 151 4).toInt + 1; omega), (by show ((m.1 151 5)).toInt = 0 ∨ (((m.1 154 x5.toNatClampNeg) - (1 : Int32))).toInt = (m0.1 151 4).toInt; omega), (by show 3000 ≤ (m0.1 151 4).toInt ∨ 0 ≤ (((m.1 154 x5.toNatClampNeg) - (1 : Int32))).toInt; omega)⟩
    · intro m x5 x6 y1 y3 w f j1 j2 j3 j4 j5 j6 hn
      refine g_X9_put_85  ?_
      have t1 := t_and8191 (x5 + (1 : Int32))
      have t2 := ti_addc (x := x6) (y := (1 : Int32)) (c := 1) rfl (by omega)
      have r3 := w.at (a := 151) (k := 4) rfl
      exact ih.1 _ _ _ _ _ w f (by show (0 : Int) ≤ (((x5 + (1 : Int32)) &&& (8191 : Int32))).toInt; omega) (by show (((x5 + (1 : Int32)) &&& (8191 : Int32))).toInt ≤ (8191 : Int); omega) (by show (0 : Int) ≤ ((x6 + (1 : Int32))).toInt; omega) (by show ((x6 + (1 : Int32))).toInt ≤ (8192 : Int); omega) (by show ((m.1 151 4)).toInt = (m0.1 151 4).toInt; omega) (by show ((m.1 151 5)).toInt = 0; omega) (by show (8192 - ((x6 + (1 : Int32))).toInt) * 2 + 1 < _; omega)
    · intro m x5 y1 y3 w f j1 j2 j3 j4 hn
      refine g_X9_put_101  ?_
      refine ⟨?_, ?_⟩
      · intro c1
        have r2 := w.at (a := 151) (k := 4) rfl
        have k3 := y_ltr (n := 3000) rfl c1
        refine ⟨?_, ?_⟩
        · exact vpi (by omega) (by omega)
        · refine ⟨?_, ?_⟩
          · show vp_in (m.1 151 4) 3000
            exact vpi (by omega) (by omega)
          · refine ⟨?_, ?_⟩
            · show vp_in (m.1 151 4) 3000
              exact vpi (by omega) (by omega)
            · refine ⟨?_, ?_⟩
              · exact vpi (by omega) (by omega)
              · have w4 : WT (uL m 152 ((m.1 151 4).toNatClampNeg) y1) := w.l
                have f4 : Fx (RS [10]) m0 (uL m 152 ((m.1 151 4).toNatClampNeg) y1) := f.l rfl
                have w5 : WT (uL (uL m 152 ((m.1 151 4).toNatClampNeg) y1) 153 (((uL m 152 ((m.1 151 4).toNatClampNeg) y1).1 151 4).toNatClampNeg) y3) := w4.l
                have f5 : Fx (RS [10]) m0 (uL (uL m 152 ((m.1 151 4).toNatClampNeg) y1) 153 (((uL m 152 ((m.1 151 4).toNatClampNeg) y1).1 151 4).toNatClampNeg) y3) := f4.l rfl
                have w6 : WT (uI (uL (uL m 152 ((m.1 151 4).toNatClampNeg) y1) 153 (((uL m 152 ((m.1 151 4).toNatClampNeg) y1).1 151 4).toNatClampNeg) y3) 155 (((uL (uL m 152 ((m.1 151 4).toNatClampNeg) y1) 153 (((uL m 152 ((m.1 151 4).toNatClampNeg) y1).1 151 4).toNatClampNeg) y3).1 151 4).toNatClampNeg) x5) := w5.t rfl (by show (0 : Int) ≤ (x5).toInt; omega) (by show (x5).toInt ≤ 8191; omega)
                have f6 : Fx (RS [10]) m0 (uI (uL (uL m 152 ((m.1 151 4).toNatClampNeg) y1) 153 (((uL m 152 ((m.1 151 4).toNatClampNeg) y1).1 151 4).toNatClampNeg) y3) 155 (((uL (uL m 152 ((m.1 151 4).toNatClampNeg) y1) 153 (((uL m 152 ((m.1 151 4).toNatClampNeg) y1).1 151 4).toNatClampNeg) y3).1 151 4).toNatClampNeg) x5) := f5.i rfl
                have t8 := ti_addc (x := (m.1 151 4)) (y := (1 : Int32)) (c := 1) rfl (by omega)
                have w7 : WT (uI (uI (uL (uL m 152 ((m.1 151 4).toNatClampNeg) y1) 153 (((uL m 152 ((m.1 151 4).toNatClampNeg) y1).1 151 4).toNatClampNeg) y3) 155 (((uL (uL m 152 ((m.1 151 4).toNatClampNeg) y1) 153 (((uL m 152 ((m.1 151 4).toNatClampNeg) y1).1 151 4).toNatClampNeg) y3).1 151 4).toNatClampNeg) x5) 151 4 (((uI (uL (uL m 152 ((m.1 151 4).toNatClampNeg) y1) 153 (((uL m 152 ((m.1 151 4).toNatClampNeg) y1).1 151 4).toNatClampNeg) y3) 155 (((uL (uL m 152 ((m.1 151 4).toNatClampNeg) y1) 153 (((uL m 152 ((m.1 151 4).toNatClampNeg) y1).1 151 4).toNatClampNeg) y3).1 151 4).toNatClampNeg) x5).1 151 4) + (1 : Int32))) := w6.t rfl (by show (0 : Int) ≤ (((m.1 151 4) + (1 : Int32))).toInt; omega) (by show (((m.1 151 4) + (1 : Int32))).toInt ≤ 3000; omega)
                have f7 : Fx (RS [10]) m0 (uI (uI (uL (uL m 152 ((m.1 151 4).toNatClampNeg) y1) 153 (((uL m 152 ((m.1 151 4).toNatClampNeg) y1).1 151 4).toNatClampNeg) y3) 155 (((uL (uL m 152 ((m.1 151 4).toNatClampNeg) y1) 153 (((uL m 152 ((m.1 151 4).toNatClampNeg) y1).1 151 4).toNatClampNeg) y3).1 151 4).toNatClampNeg) x5) 151 4 (((uI (uL (uL m 152 ((m.1 151 4).toNatClampNeg) y1) 153 (((uL m 152 ((m.1 151 4).toNatClampNeg) y1).1 151 4).toNatClampNeg) y3) 155 (((uL (uL m 152 ((m.1 151 4).toNatClampNeg) y1) 153 (((uL m 152 ((m.1 151 4).toNatClampNeg) y1).1 151 4).toNatClampNeg) y3).1 151 4).toNatClampNeg) x5).1 151 4) + (1 : Int32))) := f6.i rfl
                have w9 : WT (uI (uI (uI (uL (uL m 152 ((m.1 151 4).toNatClampNeg) y1) 153 (((uL m 152 ((m.1 151 4).toNatClampNeg) y1).1 151 4).toNatClampNeg) y3) 155 (((uL (uL m 152 ((m.1 151 4).toNatClampNeg) y1) 153 (((uL m 152 ((m.1 151 4).toNatClampNeg) y1).1 151 4).toNatClampNeg) y3).1 151 4).toNatClampNeg) x5) 151 4 (((uI (uL (uL m 152 ((m.1 151 4).toNatClampNeg) y1) 153 (((uL m 152 ((m.1 151 4).toNatClampNeg) y1).1 151 4).toNatClampNeg) y3) 155 (((uL (uL m 152 ((m.1 151 4).toNatClampNeg) y1) 153 (((uL m 152 ((m.1 151 4).toNatClampNeg) y1).1 151 4).toNatClampNeg) y3).1 151 4).toNatClampNeg) x5).1 151 4) + (1 : Int32))) 154 x5.toNatClampNeg ((uI (uI (uL (uL m 152 ((m.1 151 4).toNatClampNeg) y1) 153 (((uL m 152 ((m.1 151 4).toNatClampNeg) y1).1 151 4).toNatClampNeg) y3) 155 (((uL (uL m 152 ((m.1 151 4).toNatClampNeg) y1) 153 (((uL m 152 ((m.1 151 4).toNatClampNeg) y1).1 151 4).toNatClampNeg) y3).1 151 4).toNatClampNeg) x5) 151 4 (((uI (uL (uL m 152 ((m.1 151 4).toNatClampNeg) y1) 153 (((uL m 152 ((m.1 151 4).toNatClampNeg) y1).1 151 4).toNatClampNeg) y3) 155 (((uL (uL m 152 ((m.1 151 4).toNatClampNeg) y1) 153 (((uL m 152 ((m.1 151 4).toNatClampNeg) y1).1 151 4).toNatClampNeg) y3).1 151 4).toNatClampNeg) x5).1 151 4) + (1 : Int32))).1 151 4)) := w7.t rfl (by show (0 : Int) ≤ (((m.1 151 4) + (1 : Int32))).toInt; omega) (by show (((m.1 151 4) + (1 : Int32))).toInt ≤ 3000; omega)
                have f9 : Fx (RS [10]) m0 (uI (uI (uI (uL (uL m 152 ((m.1 151 4).toNatClampNeg) y1) 153 (((uL m 152 ((m.1 151 4).toNatClampNeg) y1).1 151 4).toNatClampNeg) y3) 155 (((uL (uL m 152 ((m.1 151 4).toNatClampNeg) y1) 153 (((uL m 152 ((m.1 151 4).toNatClampNeg) y1).1 151 4).toNatClampNeg) y3).1 151 4).toNatClampNeg) x5) 151 4 (((uI (uL (uL m 152 ((m.1 151 4).toNatClampNeg) y1) 153 (((uL m 152 ((m.1 151 4).toNatClampNeg) y1).1 151 4).toNatClampNeg) y3) 155 (((uL (uL m 152 ((m.1 151 4).toNatClampNeg) y1) 153 (((uL m 152 ((m.1 151 4).toNatClampNeg) y1).1 151 4).toNatClampNeg) y3).1 151 4).toNatClampNeg) x5).1 151 4) + (1 : Int32))) 154 x5.toNatClampNeg ((uI (uI (uL (uL m 152 ((m.1 151 4).toNatClampNeg) y1) 153 (((uL m 152 ((m.1 151 4).toNatClampNeg) y1).1 151 4).toNatClampNeg) y3) 155 (((uL (uL m 152 ((m.1 151 4).toNatClampNeg) y1) 153 (((uL m 152 ((m.1 151 4).toNatClampNeg) y1).1 151 4).toNatClampNeg) y3).1 151 4).toNatClampNeg) x5) 151 4 (((uI (uL (uL m 152 ((m.1 151 4).toNatClampNeg) y1) 153 (((uL m 152 ((m.1 151 4).toNatClampNeg) y1).1 151 4).toNatClampNeg) y3) 155 (((uL (uL m 152 ((m.1 151 4).toNatClampNeg) y1) 153 (((uL m 152 ((m.1 151 4).toNatClampNeg) y1).1 151 4).toNatClampNeg) y3).1 151 4).toNatClampNeg) x5).1 151 4) + (1 : Int32))).1 151 4)) := f7.i rfl
                have w10 : WT (uI (uI (uI (uI (uL (uL m 152 ((m.1 151 4).toNatClampNeg) y1) 153 (((uL m 152 ((m.1 151 4).toNatClampNeg) y1).1 151 4).toNatClampNeg) y3) 155 (((uL (uL m 152 ((m.1 151 4).toNatClampNeg) y1) 153 (((uL m 152 ((m.1 151 4).toNatClampNeg) y1).1 151 4).toNatClampNeg) y3).1 151 4).toNatClampNeg) x5) 151 4 (((uI (uL (uL m 152 ((m.1 151 4).toNatClampNeg) y1) 153 (((uL m 152 ((m.1 151 4).toNatClampNeg) y1).1 151 4).toNatClampNeg) y3) 155 (((uL (uL m 152 ((m.1 151 4).toNatClampNeg) y1) 153 (((uL m 152 ((m.1 151 4).toNatClampNeg) y1).1 151 4).toNatClampNeg) y3).1 151 4).toNatClampNeg) x5).1 151 4) + (1 : Int32))) 154 x5.toNatClampNeg ((uI (uI (uL (uL m 152 ((m.1 151 4).toNatClampNeg) y1) 153 (((uL m 152 ((m.1 151 4).toNatClampNeg) y1).1 151 4).toNatClampNeg) y3) 155 (((uL (uL m 152 ((m.1 151 4).toNatClampNeg) y1) 153 (((uL m 152 ((m.1 151 4).toNatClampNeg) y1).1 151 4).toNatClampNeg) y3).1 151 4).toNatClampNeg) x5) 151 4 (((uI (uL (uL m 152 ((m.1 151 4).toNatClampNeg) y1) 153 (((uL m 152 ((m.1 151 4).toNatClampNeg) y1).1 151 4).toNatClampNeg) y3) 155 (((uL (uL m 152 ((m.1 151 4).toNatClampNeg) y1) 153 (((uL m 152 ((m.1 151 4).toNatClampNeg) y1).1 151 4).toNatClampNeg) y3).1 151 4).toNatClampNeg) x5).1 151 4) + (1 : Int32))).1 151 4)) 151 5 (1 : Int32)) := w9.n rfl
                have f10 : Fx (RS [10]) m0 (uI (uI (uI (uI (uL (uL m 152 ((m.1 151 4).toNatClampNeg) y1) 153 (((uL m 152 ((m.1 151 4).toNatClampNeg) y1).1 151 4).toNatClampNeg) y3) 155 (((uL (uL m 152 ((m.1 151 4).toNatClampNeg) y1) 153 (((uL m 152 ((m.1 151 4).toNatClampNeg) y1).1 151 4).toNatClampNeg) y3).1 151 4).toNatClampNeg) x5) 151 4 (((uI (uL (uL m 152 ((m.1 151 4).toNatClampNeg) y1) 153 (((uL m 152 ((m.1 151 4).toNatClampNeg) y1).1 151 4).toNatClampNeg) y3) 155 (((uL (uL m 152 ((m.1 151 4).toNatClampNeg) y1) 153 (((uL m 152 ((m.1 151 4).toNatClampNeg) y1).1 151 4).toNatClampNeg) y3).1 151 4).toNatClampNeg) x5).1 151 4) + (1 : Int32))) 154 x5.toNatClampNeg ((uI (uI (uL (uL m 152 ((m.1 151 4).toNatClampNeg) y1) 153 (((uL m 152 ((m.1 151 4).toNatClampNeg) y1).1 151 4).toNatClampNeg) y3) 155 (((uL (uL m 152 ((m.1 151 4).toNatClampNeg) y1) 153 (((uL m 152 ((m.1 151 4).toNatClampNeg) y1).1 151 4).toNatClampNeg) y3).1 151 4).toNatClampNeg) x5) 151 4 (((uI (uL (uL m 152 ((m.1 151 4).toNatClampNeg) y1) 153 (((uL m 152 ((m.1 151 4).toNatClampNeg) y1).1 151 4).toNatClampNeg) y3) 155 (((uL (uL m 152 ((m.1 151 4).toNatClampNeg) y1) 153 (((uL m 152 ((m.1 151 4).toNatClampNeg) y1).1 151 4).toNatClampNeg) y3).1 151 4).toNatClampNeg) x5).1 151 4) + (1 : Int32))).1 151 4)) 151 5 (1 : Int32)) := f9.i rfl
                have t11 := ti_subc (x := ((m.1 151 4) + (1 : Int32))) (y := (1 : Int32)) (c := 1) rfl (by omega)
                exact ⟨w10, f10, _, rfl, (by show (-1 : Int) ≤ ((((m.1 151 4) + (1 : Int32)) - (1 : Int32))).toInt; omega), (by show ((((m.1 151 4) + (1 : Int32)) - (1 : Int32))).toInt ≤ (2999 : Int); omega), (by show (m0.1 151 4).toInt ≤ (((m.1 151 4) + (1 : Int32))).toInt; omega), (by show (((m.1 151 4) + (1 : Int32))).toInt ≤ (m0.1 151 4).toInt + 1; omega), (by show (1 : Int) = 0 ∨ ((((m.1 151 4) + (1 : Int32)) - (1 : Int32))).toInt = (m0.1 151 4).toInt; omega), (by show 3000 ≤ (m0.1 151 4).toInt ∨ 0 ≤ ((((m.1 151 4) + (1 : Int32)) - (1 : Int32))).toInt; omega)⟩
      · intro c12
        have r13 := w.at (a := 151) (k := 4) rfl
        have k14 := y_nltr (n := 3000) rfl c12
        exact ⟨w, f, _, rfl, (by show (-1 : Int) ≤ (-1 : Int); omega), (by show (-1 : Int) ≤ (2999 : Int); omega), (by show (m0.1 151 4).toInt ≤ ((m.1 151 4)).toInt; omega), (by show ((m.1 151 4)).toInt ≤ (m0.1 151 4).toInt + 1; omega), (by show ((m.1 151 5)).toInt = 0 ∨ (-1 : Int) = (m0.1 151 4).toInt; omega), (by show 3000 ≤ (m0.1 151 4).toInt ∨ 0 ≤ (-1 : Int); omega)⟩
set_option maxHeartbeats 4000000 in
theorem s_X9_put {ad : Nat → Nat} {d : Nat} {m : Wm} {y1 y3 : Int64} (w : WT m) : Ct ad μX9_put d [.ref (ad 151), .long y1, .long y3] m (fun r m' => WT m' ∧ Fx (RS [10]) m m' ∧ ∃ v : Int32, r = some (.int v) ∧ (-1 : Int) ≤ v.toInt ∧ v.toInt ≤ 2999 ∧ ((m.1 151 4).toInt ≤ (m'.1 151 4).toInt) ∧ ((m'.1 151 4).toInt ≤ (m.1 151 4).toInt + 1) ∧ ((m'.1 151 5).toInt = 0 ∨ v.toInt = (m.1 151 4).toInt) ∧ (3000 ≤ (m.1 151 4).toInt ∨ 0 ≤ v.toInt)) := by
  have f : Fx (RS [10]) m m := Fx.rf
  refine v_X9_put  ?_
  have w1 : WT (uI m 151 5 (0 : Int32)) := w.n rfl
  have f1 : Fx (RS [10]) m (uI m 151 5 (0 : Int32)) := f.i rfl
  have t2 := t_and8191 ((((y1 * (-7046029254386353131 : Int64)) ^^^ (y3 * (-4417276706812531889 : Int64))).toUInt64 >>> ((40 : Int32).toInt64.toUInt64 &&& (Int64.toUInt64 63))).toInt64.toInt32)
  have r3 := w.at (a := 151) (k := 4) rfl
  exact (l_X9_put (m0 := m) 1000000).1 _ _ _ _ _ w1 f1 (by show (0 : Int) ≤ (((((y1 * (-7046029254386353131 : Int64)) ^^^ (y3 * (-4417276706812531889 : Int64))).toUInt64 >>> ((40 : Int32).toInt64.toUInt64 &&& (Int64.toUInt64 63))).toInt64.toInt32 &&& (8191 : Int32))).toInt; omega) (by show (((((y1 * (-7046029254386353131 : Int64)) ^^^ (y3 * (-4417276706812531889 : Int64))).toUInt64 >>> ((40 : Int32).toInt64.toUInt64 &&& (Int64.toUInt64 63))).toInt64.toInt32 &&& (8191 : Int32))).toInt ≤ (8191 : Int); omega) (by show (0 : Int) ≤ (0 : Int); omega) (by show (0 : Int) ≤ (8192 : Int); omega) (by show ((m.1 151 4)).toInt = (m.1 151 4).toInt; omega) (by show (0 : Int) = 0; omega) (by show (8192 - (0 : Int)) * 2 + 1 < _; omega)
set_option maxHeartbeats 4000000 in
theorem l_X9_packed {ad : Nat → Nat} {d : Nat} {m0 : Wm} {b0 ρ0 : Nat} (hb0 : SS b0 ρ0) : ∀ n : Nat, (∀ (m : Wm) (x1 x4 : Int32) (y2 : Int64), WT m → Fx (RS []) m0 m → (-1 : Int) ≤ x4.toInt → x4.toInt ≤ (3 : Int) → x4.toInt + 1 < (n : Int) → AW ad E0 μX9_packed (d + 1) (fun r m' => WT m' ∧ Fx (RS []) m0 m' ∧ ∃ v : Int64, r = some (.long v)) 5 [(0, .ref (ad b0)), (1, .int x1), (2, .long y2), (4, .int x4)] [] m) := by
  intro n
  induction n with
  | zero =>
    intros
    exfalso
    omega
  | succ n ih =>
    intro m x1 x4 y2 w f j1 j2 hn
    refine g_X9_packed_5 hb0.1 ?_
    refine ⟨?_, ?_⟩
    · intro c1
      have k2 := y_ltr (n := 0) rfl c1
      exact ⟨w, f, _, rfl⟩
    · intro c3
      have k4 := y_nltr (n := 0) rfl c3
      refine (s_X8_skillOf w hb0).to ?_
      rintro _ m1 ⟨w_m1, g5, v2, rfl⟩
      have f_m1 : Fx (RS []) m0 m1 := f.tr g5 (RS_sub rfl)
      refine ⟨v2, rfl, ?_⟩
      have t6 := ti_addc (x := x4) (y := (-1 : Int32)) (c := -1) rfl (by omega)
      exact ih _ _ _ _ w_m1 f_m1 (by show (-1 : Int) ≤ ((x4 + (-1 : Int32))).toInt; omega) (by show ((x4 + (-1 : Int32))).toInt ≤ (3 : Int); omega) (by show ((x4 + (-1 : Int32))).toInt + 1 < _; omega)
set_option maxHeartbeats 4000000 in
theorem s_X9_packed {ad : Nat → Nat} {d : Nat} {m : Wm} {b0 ρ0 : Nat} {x1 : Int32} (w : WT m) (hb0 : SS b0 ρ0) : Ct ad μX9_packed (d + 1) [.ref (ad b0), .int x1] m (fun r m' => WT m' ∧ Fx (RS []) m m' ∧ ∃ v : Int64, r = some (.long v)) := by
  have f : Fx (RS []) m m := Fx.rf
  refine v_X9_packed hb0.1 ?_
  exact (l_X9_packed (m0 := m) hb0 1000000) _ _ _ _ w f (by show (-1 : Int) ≤ (3 : Int); omega) (by show (3 : Int) ≤ (3 : Int); omega) (by show (3 : Int) + 1 < _; omega)
set_option maxHeartbeats 4000000 in
theorem l_X9_putSkillsOf {ad : Nat → Nat} {d : Nat} {m0 : Wm} {b1 ρ1 : Nat} (hb1 : SS b1 ρ1) : ∀ n : Nat, (∀ (m : Wm) (x6 : Int32) (y2 y4 : Int64), WT m → Fx (RS [10]) m0 m → (0 : Int) ≤ x6.toInt → x6.toInt ≤ (4 : Int) → ((m.1 151 4).toInt = (m0.1 151 4).toInt) → 4 - x6.toInt < (n : Int) → AW ad E0 μX9_putSkillsOf (d + 2) (fun r m' => WT m' ∧ Fx (RS [10]) m0 m' ∧ ∃ v : Int32, r = some (.int v) ∧ (-1 : Int) ≤ v.toInt ∧ v.toInt ≤ 2999 ∧ ((m0.1 151 4).toInt ≤ (m'.1 151 4).toInt) ∧ ((m'.1 151 4).toInt ≤ (m0.1 151 4).toInt + 1) ∧ ((m'.1 151 5).toInt = 0 ∨ v.toInt = (m0.1 151 4).toInt) ∧ (3000 ≤ (m0.1 151 4).toInt ∨ 0 ≤ v.toInt)) 8 [(0, .ref (ad 151)), (1, .ref (ad b1)), (2, .long y2), (4, .long y4), (6, .int x6)] [] m) := by
  intro n
  induction n with
  | zero =>
    intros
    exfalso
    omega
  | succ n ih =>
    intro m x6 y2 y4 w f j1 j2 j3 hn
    refine g_X9_putSkillsOf_8 hb1.1 ?_
    refine ⟨?_, ?_⟩
    · intro c1
      have k2 := y_lel (n := 4) rfl c1
      refine (s_X9_put w).to ?_
      rintro _ m1 ⟨w_m1, g3, v2, rfl, p8, p9, p4, p5, p6, p7⟩
      have f_m1 : Fx (RS [10]) m0 m1 := f.tr g3 (RS_sub rfl)
      have p10 : ((m.1 151 4)).toInt ≤ (m1.1 151 4).toInt := p4
      clear p4
      have p11 : (m1.1 151 4).toInt ≤ ((m.1 151 4)).toInt + 1 := p5
      clear p5
      have p12 : (m1.1 151 5).toInt = 0 ∨ v2.toInt = ((m.1 151 4)).toInt := p6
      clear p6
      have p13 : 3000 ≤ ((m.1 151 4)).toInt ∨ 0 ≤ v2.toInt := p7
      clear p7
      refine ⟨v2, rfl, ?_⟩
      have r14 := w_m1.at (a := 151) (k := 4) rfl
      exact ⟨w_m1, f_m1, _, rfl, (by show (-1 : Int) ≤ (v2).toInt; omega), (by show (v2).toInt ≤ (2999 : Int); omega), (by show (m0.1 151 4).toInt ≤ ((m1.1 151 4)).toInt; omega), (by show ((m1.1 151 4)).toInt ≤ (m0.1 151 4).toInt + 1; omega), (by show ((m1.1 151 5)).toInt = 0 ∨ (v2).toInt = (m0.1 151 4).toInt; omega), (by show 3000 ≤ (m0.1 151 4).toInt ∨ 0 ≤ (v2).toInt; omega)⟩
    · intro c15
      have k16 := y_nlel (n := 4) rfl c15
      refine (s_X9_packed w hb1).to ?_
      rintro _ m3 ⟨w_m3, g17, w4, rfl⟩
      have f_m3 : Fx (RS [10]) m0 m3 := f.tr g17 (RS_sub rfl)
      have e18 : (m3.1 151 4).toInt = ((m.1 151 4)).toInt := congrArg _ (g17.at (a := 151) (k := 4) (by decide))
      refine ⟨w4, rfl, ?_⟩
      refine (s_X9_packed w_m3 hb1).to ?_
      rintro _ m5 ⟨w_m5, g19, w6, rfl⟩
      have f_m5 : Fx (RS [10]) m0 m5 := f_m3.tr g19 (RS_sub rfl)
      have e20 : (m5.1 151 4).toInt = ((m3.1 151 4)).toInt := congrArg _ (g19.at (a := 151) (k := 4) (by decide))
      refine ⟨w6, rfl, ?_⟩
      have t21 := ti_addc (x := x6) (y := (1 : Int32)) (c := 1) rfl (by omega)
      have r22 := w_m5.at (a := 151) (k := 4) rfl
      exact ih _ _ _ _ w_m5 f_m5 (by show (0 : Int) ≤ ((x6 + (1 : Int32))).toInt; omega) (by show ((x6 + (1 : Int32))).toInt ≤ (4 : Int); omega) (by show ((m5.1 151 4)).toInt = (m0.1 151 4).toInt; omega) (by show 4 - ((x6 + (1 : Int32))).toInt < _; omega)
set_option maxHeartbeats 4000000 in
theorem s_X9_putSkillsOf {ad : Nat → Nat} {d : Nat} {m : Wm} {b1 ρ1 : Nat} (w : WT m) (hb1 : SS b1 ρ1) : Ct ad μX9_putSkillsOf (d + 2) [.ref (ad 151), .ref (ad b1)] m (fun r m' => WT m' ∧ Fx (RS [10]) m m' ∧ ∃ v : Int32, r = some (.int v) ∧ (-1 : Int) ≤ v.toInt ∧ v.toInt ≤ 2999 ∧ ((m.1 151 4).toInt ≤ (m'.1 151 4).toInt) ∧ ((m'.1 151 4).toInt ≤ (m.1 151 4).toInt + 1) ∧ ((m'.1 151 5).toInt = 0 ∨ v.toInt = (m.1 151 4).toInt) ∧ (3000 ≤ (m.1 151 4).toInt ∨ 0 ≤ v.toInt)) := by
  have f : Fx (RS [10]) m m := Fx.rf
  refine v_X9_putSkillsOf hb1.1 ?_
  have r1 := w.at (a := 151) (k := 4) rfl
  exact (l_X9_putSkillsOf (m0 := m) hb1 1000000) _ _ _ _ w f (by show (0 : Int) ≤ (0 : Int); omega) (by show (0 : Int) ≤ (4 : Int); omega) (by show ((m.1 151 4)).toInt = (m.1 151 4).toInt; omega) (by show 4 - (0 : Int) < _; omega)
set_option maxHeartbeats 4000000 in
theorem s_X9_without {ad : Nat → Nat} {d : Nat} {m : Wm} {x2 : Int32} {y0 : Int64} (w : WT m) : Ct ad μX9_without d [.long y0, .int x2] m (fun r m' => WT m' ∧ Fx (RS []) m m' ∧ ∃ v : Int64, r = some (.long v)) := by
  have f : Fx (RS []) m m := Fx.rf
  refine v_X9_without  ?_
  exact ⟨w, f, _, rfl⟩
set_option maxHeartbeats 4000000 in
theorem l_X9_skillIn {ad : Nat → Nat} {d : Nat} {m0 : Wm}  : ∀ n : Nat, (∀ (m : Wm) (x2 x3 : Int32) (z0 : Int64), WT m → Fx (RS []) m0 m → 0 * x2.toInt < (n : Int) → AW ad E0 μX9_skillIn d (fun r m' => WT m' ∧ Fx (RS []) m0 m' ∧ ∃ v : Int32, r = some (.int v) ∧ (0 : Int) ≤ v.toInt ∧ v.toInt ≤ 7) 20 [(2, .int x2), (3, .int x3)] [.long z0] m) := by
  intro n
  induction n with
  | zero =>
    intros
    exfalso
    omega
  | succ n ih =>
    intro m x2 x3 z0 w f  hn
    refine g_X9_skillIn_20  ?_
    have t1 := t_and7 ((z0.toUInt64 >>> ((((x2 - ((x2 / (4 : Int32)) * (4 : Int32))) * (12 : Int32)) + ((3 : Int32) * x3)).toInt64.toUInt64 &&& (Int64.toUInt64 63))).toInt64.toInt32)
    exact ⟨w, f, _, rfl, (by show (0 : Int) ≤ (((z0.toUInt64 >>> ((((x2 - ((x2 / (4 : Int32)) * (4 : Int32))) * (12 : Int32)) + ((3 : Int32) * x3)).toInt64.toUInt64 &&& (Int64.toUInt64 63))).toInt64.toInt32 &&& (7 : Int32))).toInt; omega), (by show (((z0.toUInt64 >>> ((((x2 - ((x2 / (4 : Int32)) * (4 : Int32))) * (12 : Int32)) + ((3 : Int32) * x3)).toInt64.toUInt64 &&& (Int64.toUInt64 63))).toInt64.toInt32 &&& (7 : Int32))).toInt ≤ (7 : Int); omega)⟩
set_option maxHeartbeats 4000000 in
theorem s_X9_skillIn {ad : Nat → Nat} {d : Nat} {m : Wm} {x1 x2 x3 : Int32} (w : WT m) (i1 : (0 : Int) ≤ x1.toInt) (i2 : x1.toInt ≤ (2999 : Int)) : Ct ad μX9_skillIn d [.ref (ad 151), .int x1, .int x2, .int x3] m (fun r m' => WT m' ∧ Fx (RS []) m m' ∧ ∃ v : Int32, r = some (.int v) ∧ (0 : Int) ≤ v.toInt ∧ v.toInt ≤ 7) := by
  have f : Fx (RS []) m m := Fx.rf
  refine v_X9_skillIn  ?_
  refine ⟨?_, ?_⟩
  · intro c1
    have k2 := y_lel (n := 4) rfl c1
    refine ⟨?_, ?_⟩
    · exact vpi (by omega) (by omega)
    · exact (l_X9_skillIn (m0 := m) 1000000) _ _ _ _ w f (by show 0 * (x2).toInt < _; omega)
  · intro c3
    have k4 := y_nlel (n := 4) rfl c3
    refine ⟨?_, ?_⟩
    · exact vpi (by omega) (by omega)
    · exact (l_X9_skillIn (m0 := m) 1000000) _ _ _ _ w f (by show 0 * (x2).toInt < _; omega)
set_option maxHeartbeats 4000000 in
theorem l_X9_unpack {ad : Nat → Nat} {d : Nat} {m0 : Wm} {b3 ρ3 : Nat} (hb3 : SS b3 ρ3) : ∀ n : Nat, (∀ (m : Wm) (x1 x2 x4 : Int32), WT m → Fx (RS (ρ3 :: [])) m0 m → (0 : Int) ≤ x1.toInt → x1.toInt ≤ (2999 : Int) → (0 : Int) ≤ x4.toInt → x4.toInt ≤ (4 : Int) → 4 - x4.toInt < (n : Int) → AW ad E0 μX9_unpack (d + 1) (fun r m' => WT m' ∧ Fx (RS (ρ3 :: [])) m0 m' ∧ r = none) 3 [(0, .ref (ad 151)), (1, .int x1), (2, .int x2), (3, .ref (ad b3)), (4, .int x4)] [] m) := by
  intro n
  induction n with
  | zero =>
    intros
    exfalso
    omega
  | succ n ih =>
    intro m x1 x2 x4 w f j1 j2 j3 j4 hn
    refine g_X9_unpack_3 hb3.1 ?_
    refine ⟨?_, ?_⟩
    · intro c1
      have k2 := y_lel (n := 4) rfl c1
      exact ⟨w, f, rfl⟩
    · intro c3
      have k4 := y_nlel (n := 4) rfl c3
      refine (s_X9_skillIn w (by show (0 : Int) ≤ (x1).toInt; omega) (by show (x1).toInt ≤ (2999 : Int); omega)).to ?_
      rintro _ m1 ⟨w_m1, g5, v2, rfl, p6, p7⟩
      have f_m1 : Fx (RS (ρ3 :: [])) m0 m1 := f.tr g5 (RS_tl rfl)
      refine ⟨v2, rfl, ?_⟩
      refine (s_X8_putSkill w_m1 hb3).to ?_
      rintro _ m3 ⟨w_m3, g8, rfl⟩
      have f_m3 : Fx (RS (ρ3 :: [])) m0 m3 := f_m1.tr g8 (RS_cons rfl)
      refine ⟨rfl, ?_⟩
      have t9 := ti_addc (x := x4) (y := (1 : Int32)) (c := 1) rfl (by omega)
      exact ih _ _ _ _ w_m3 f_m3 (by show (0 : Int) ≤ (x1).toInt; omega) (by show (x1).toInt ≤ (2999 : Int); omega) (by show (0 : Int) ≤ ((x4 + (1 : Int32))).toInt; omega) (by show ((x4 + (1 : Int32))).toInt ≤ (4 : Int); omega) (by show 4 - ((x4 + (1 : Int32))).toInt < _; omega)
set_option maxHeartbeats 4000000 in
theorem s_X9_unpack {ad : Nat → Nat} {d : Nat} {m : Wm} {b3 ρ3 : Nat} {x1 x2 : Int32} (w : WT m) (hb3 : SS b3 ρ3) (i1 : (0 : Int) ≤ x1.toInt) (i2 : x1.toInt ≤ (2999 : Int)) : Ct ad μX9_unpack (d + 1) [.ref (ad 151), .int x1, .int x2, .ref (ad b3)] m (fun r m' => WT m' ∧ Fx (RS (ρ3 :: [])) m m' ∧ r = none) := by
  have f : Fx (RS (ρ3 :: [])) m m := Fx.rf
  refine v_X9_unpack hb3.1 ?_
  exact (l_X9_unpack (m0 := m) hb3 1000000) _ _ _ _ w f (by show (0 : Int) ≤ (x1).toInt; omega) (by show (x1).toInt ≤ (2999 : Int); omega) (by show (0 : Int) ≤ (0 : Int); omega) (by show (0 : Int) ≤ (4 : Int); omega) (by show 4 - (0 : Int) < _; omega)
set_option maxHeartbeats 4000000 in
theorem l_X9_total {ad : Nat → Nat} {d : Nat} {m0 : Wm}  : ∀ n : Nat, (∀ (m : Wm) (x1 x2 x3 : Int32), WT m → Fx (RS []) m0 m → (0 : Int) ≤ x1.toInt → x1.toInt ≤ (2999 : Int) → (0 : Int) ≤ x3.toInt → x3.toInt ≤ (8 : Int) → (8 - x3.toInt) * 10 + 5 < (n : Int) → AW ad E0 μX9_total (d + 1) (fun r m' => WT m' ∧ Fx (RS []) m0 m' ∧ ∃ v : Int32, r = some (.int v)) 4 [(0, .ref (ad 151)), (1, .int x1), (2, .int x2), (3, .int x3)] [] m) ∧ (∀ (m : Wm) (x1 x2 x3 x4 : Int32), WT m → Fx (RS []) m0 m → (0 : Int) ≤ x1.toInt → x1.toInt ≤ (2999 : Int) → (0 : Int) ≤ x3.toInt → x3.toInt ≤ (7 : Int) → (0 : Int) ≤ x4.toInt → x4.toInt ≤ (4 : Int) → (8 - x3.toInt) * 10 - x4.toInt < (n : Int) → AW ad E0 μX9_total (d + 1) (fun r m' => WT m' ∧ Fx (RS []) m0 m' ∧ ∃ v : Int32, r = some (.int v)) 13 [(0, .ref (ad 151)), (1, .int x1), (2, .int x2), (3, .int x3), (4, .int x4)] [] m) := by
  intro n
  induction n with
  | zero =>
    refine ⟨?_, ?_⟩ <;> intros <;> exfalso <;> omega
  | succ n ih =>
    refine ⟨?_, ?_⟩
    · intro m x1 x2 x3 w f j1 j2 j3 j4 hn
      refine g_X9_total_4  ?_
      refine ⟨?_, ?_⟩
      · intro c1
        have k2 := y_lel (n := 8) rfl c1
        exact ⟨w, f, _, rfl⟩
      · intro c3
        have k4 := y_nlel (n := 8) rfl c3
        exact ih.2 _ _ _ _ _ w f (by show (0 : Int) ≤ (x1).toInt; omega) (by show (x1).toInt ≤ (2999 : Int); omega) (by show (0 : Int) ≤ (x3).toInt; omega) (by show (x3).toInt ≤ (7 : Int); omega) (by show (0 : Int) ≤ (0 : Int); omega) (by show (0 : Int) ≤ (4 : Int); omega) (by show (8 - (x3).toInt) * 10 - (0 : Int) < _; omega)
    · intro m x1 x2 x3 x4 w f j1 j2 j3 j4 j5 j6 hn
      refine g_X9_total_13  ?_
      refine ⟨?_, ?_⟩
      · intro c1
        have k2 := y_lel (n := 4) rfl c1
        have t3 := ti_addc (x := x3) (y := (1 : Int32)) (c := 1) rfl (by omega)
        exact ih.1 _ _ _ _ w f (by show (0 : Int) ≤ (x1).toInt; omega) (by show (x1).toInt ≤ (2999 : Int); omega) (by show (0 : Int) ≤ ((x3 + (1 : Int32))).toInt; omega) (by show ((x3 + (1 : Int32))).toInt ≤ (8 : Int); omega) (by show (8 - ((x3 + (1 : Int32))).toInt) * 10 + 5 < _; omega)
      · intro c4
        have k5 := y_nlel (n := 4) rfl c4
        refine (s_X9_skillIn w (by show (0 : Int) ≤ (x1).toInt; omega) (by show (x1).toInt ≤ (2999 : Int); omega)).to ?_
        rintro _ m1 ⟨w_m1, g6, v2, rfl, p7, p8⟩
        have f_m1 : Fx (RS []) m0 m1 := f.tr g6 (RS_sub rfl)
        refine ⟨v2, rfl, ?_⟩
        have t9 := ti_addc (x := x4) (y := (1 : Int32)) (c := 1) rfl (by omega)
        exact ih.2 _ _ _ _ _ w_m1 f_m1 (by show (0 : Int) ≤ (x1).toInt; omega) (by show (x1).toInt ≤ (2999 : Int); omega) (by show (0 : Int) ≤ (x3).toInt; omega) (by show (x3).toInt ≤ (7 : Int); omega) (by show (0 : Int) ≤ ((x4 + (1 : Int32))).toInt; omega) (by show ((x4 + (1 : Int32))).toInt ≤ (4 : Int); omega) (by show (8 - (x3).toInt) * 10 - ((x4 + (1 : Int32))).toInt < _; omega)
set_option maxHeartbeats 4000000 in
theorem s_X9_total {ad : Nat → Nat} {d : Nat} {m : Wm} {x1 : Int32} (w : WT m) (i1 : (0 : Int) ≤ x1.toInt) (i2 : x1.toInt ≤ (2999 : Int)) : Ct ad μX9_total (d + 1) [.ref (ad 151), .int x1] m (fun r m' => WT m' ∧ Fx (RS []) m m' ∧ ∃ v : Int32, r = some (.int v)) := by
  have f : Fx (RS []) m m := Fx.rf
  refine v_X9_total  ?_
  exact (l_X9_total (m0 := m) 1000000).1 _ _ _ _ w f (by show (0 : Int) ≤ (x1).toInt; omega) (by show (x1).toInt ≤ (2999 : Int); omega) (by show (0 : Int) ≤ (0 : Int); omega) (by show (0 : Int) ≤ (8 : Int); omega) (by show (8 - (0 : Int)) * 10 + 5 < _; omega)
set_option maxHeartbeats 4000000 in
theorem l_X9_firstWith {ad : Nat → Nat} {d : Nat} {m0 : Wm}  : ∀ n : Nat, (∀ (m : Wm) (x1 x2 x3 x4 : Int32), WT m → Fx (RS []) m0 m → (0 : Int) ≤ x4.toInt → x4.toInt ≤ (3000 : Int) → 3000 - x4.toInt < (n : Int) → AW ad E0 μX9_firstWith (d + 1) (fun r m' => WT m' ∧ Fx (RS []) m0 m' ∧ ∃ v : Int32, r = some (.int v) ∧ (-1 : Int) ≤ v.toInt ∧ v.toInt ≤ 2999) 3 [(0, .ref (ad 151)), (1, .int x1), (2, .int x2), (3, .int x3), (4, .int x4)] [] m) := by
  intro n
  induction n with
  | zero =>
    intros
    exfalso
    omega
  | succ n ih =>
    intro m x1 x2 x3 x4 w f j1 j2 hn
    refine g_X9_firstWith_3  ?_
    refine ⟨?_, ?_⟩
    · intro c1
      have r2 := w.at (a := 151) (k := 4) rfl
      have k3 := z_le c1
      exact ⟨w, f, _, rfl, (by show (-1 : Int) ≤ (-1 : Int); omega), (by show (-1 : Int) ≤ (2999 : Int); omega)⟩
    · intro c4
      have r5 := w.at (a := 151) (k := 4) rfl
      have k6 := z_nle c4
      refine (s_X9_skillIn w (by show (0 : Int) ≤ (x4).toInt; omega) (by show (x4).toInt ≤ (2999 : Int); omega)).to ?_
      rintro _ m1 ⟨w_m1, g7, v2, rfl, p8, p9⟩
      have f_m1 : Fx (RS []) m0 m1 := f.tr g7 (RS_sub rfl)
      refine ⟨v2, rfl, ?_⟩
      refine ⟨?_, ?_⟩
      · intro c10
        have k11 := z_lt c10
        have t12 := ti_addc (x := x4) (y := (1 : Int32)) (c := 1) rfl (by omega)
        exact ih _ _ _ _ _ w_m1 f_m1 (by show (0 : Int) ≤ ((x4 + (1 : Int32))).toInt; omega) (by show ((x4 + (1 : Int32))).toInt ≤ (3000 : Int); omega) (by show 3000 - ((x4 + (1 : Int32))).toInt < _; omega)
      · intro c13
        have k14 := z_nlt c13
        exact ⟨w_m1, f_m1, _, rfl, (by show (-1 : Int) ≤ (x4).toInt; omega), (by show (x4).toInt ≤ (2999 : Int); omega)⟩
set_option maxHeartbeats 4000000 in
theorem s_X9_firstWith {ad : Nat → Nat} {d : Nat} {m : Wm} {x1 x2 x3 : Int32} (w : WT m) : Ct ad μX9_firstWith (d + 1) [.ref (ad 151), .int x1, .int x2, .int x3] m (fun r m' => WT m' ∧ Fx (RS []) m m' ∧ ∃ v : Int32, r = some (.int v) ∧ (-1 : Int) ≤ v.toInt ∧ v.toInt ≤ 2999) := by
  have f : Fx (RS []) m m := Fx.rf
  refine v_X9_firstWith  ?_
  exact (l_X9_firstWith (m0 := m) 1000000) _ _ _ _ _ w f (by show (0 : Int) ≤ (0 : Int); omega) (by show (0 : Int) ≤ (3000 : Int); omega) (by show 3000 - (0 : Int) < _; omega)
set_option maxHeartbeats 4000000 in
theorem l_X6_unpackAll {ad : Nat → Nat} {d : Nat} {m0 : Wm}  : ∀ n : Nat, (∀ (m : Wm) (x2 x3 : Int32), WT m → Fx (RS [11]) m0 m → (0 : Int) ≤ x2.toInt → x2.toInt ≤ (2999 : Int) → (0 : Int) ≤ x3.toInt → x3.toInt ≤ (8 : Int) → 8 - x3.toInt < (n : Int) → AW ad E0 μX6_unpackAll (d + 2) (fun r m' => WT m' ∧ Fx (RS [11]) m0 m' ∧ r = none) 2 [(0, .ref (ad 156)), (1, .ref (ad 3)), (2, .int x2), (3, .int x3)] [] m) := by
  intro n
  induction n with
  | zero =>
    intros
    exfalso
    omega
  | succ n ih =>
    intro m x2 x3 w f j1 j2 j3 j4 hn
    refine g_X6_unpackAll_2  ?_
    refine ⟨?_, ?_⟩
    · intro c1
      have r2 := w.at (a := 3) (k := 3) rfl
      have k3 := z_le c1
      exact ⟨w, f, rfl⟩
    · intro c4
      have r5 := w.at (a := 3) (k := 3) rfl
      have k6 := z_nle c4
      refine (s_X9_unpack w SS_157 (by show (0 : Int) ≤ (x2).toInt; omega) (by show (x2).toInt ≤ (2999 : Int); omega)).to ?_
      rintro _ m1 ⟨w_m1, g7, rfl⟩
      have f_m1 : Fx (RS [11]) m0 m1 := f.tr g7 (RS_sub rfl)
      refine ⟨rfl, ?_⟩
      have t8 := ti_addc (x := x3) (y := (1 : Int32)) (c := 1) rfl (by omega)
      exact ih _ _ _ w_m1 f_m1 (by show (0 : Int) ≤ (x2).toInt; omega) (by show (x2).toInt ≤ (2999 : Int); omega) (by show (0 : Int) ≤ ((x3 + (1 : Int32))).toInt; omega) (by show ((x3 + (1 : Int32))).toInt ≤ (8 : Int); omega) (by show 8 - ((x3 + (1 : Int32))).toInt < _; omega)
set_option maxHeartbeats 4000000 in
theorem s_X6_unpackAll {ad : Nat → Nat} {d : Nat} {m : Wm} {x2 : Int32} (w : WT m) (i1 : (0 : Int) ≤ x2.toInt) (i2 : x2.toInt ≤ (2999 : Int)) : Ct ad μX6_unpackAll (d + 2) [.ref (ad 156), .ref (ad 3), .int x2] m (fun r m' => WT m' ∧ Fx (RS [11]) m m' ∧ r = none) := by
  have f : Fx (RS [11]) m m := Fx.rf
  refine v_X6_unpackAll  ?_
  exact (l_X6_unpackAll (m0 := m) 1000000) _ _ _ w f (by show (0 : Int) ≤ (x2).toInt; omega) (by show (x2).toInt ≤ (2999 : Int); omega) (by show (0 : Int) ≤ (0 : Int); omega) (by show (0 : Int) ≤ (8 : Int); omega) (by show 8 - (0 : Int) < _; omega)
set_option maxHeartbeats 4000000 in
theorem l_X6_halfAfter {ad : Nat → Nat} {d : Nat} {m0 : Wm}  : ∀ n : Nat, (∀ (m : Wm) (x2 x3 x4 : Int32) (z0 : Int64), WT m → Fx (RS []) m0 m → 0 * x2.toInt + 2 < (n : Int) → AW ad E0 μX6_halfAfter (d + 2) (fun r m' => WT m' ∧ Fx (RS []) m0 m' ∧ ∃ v : Int64, r = some (.long v)) 26 [(0, .ref (ad 156)), (2, .int x2), (3, .int x3), (4, .int x4)] [.long z0] m) ∧ (∀ (m : Wm) (x2 x3 x4 s0 : Int32) (y5 : Int64), WT m → Fx (RS []) m0 m → 0 * x2.toInt + 1 < (n : Int) → AW ad E0 μX6_halfAfter (d + 2) (fun r m' => WT m' ∧ Fx (RS []) m0 m' ∧ ∃ v : Int64, r = some (.long v)) 38 [(0, .ref (ad 156)), (2, .int x2), (3, .int x3), (4, .int x4), (5, .long y5)] [.int s0] m) ∧ (∀ (m : Wm) (x3 x4 s0 : Int32) (y5 : Int64), WT m → Fx (RS []) m0 m → 0 * x3.toInt < (n : Int) → AW ad E0 μX6_halfAfter (d + 2) (fun r m' => WT m' ∧ Fx (RS []) m0 m' ∧ ∃ v : Int64, r = some (.long v)) 70 [(0, .ref (ad 156)), (3, .int x3), (4, .int x4), (5, .long y5)] [.int s0] m) := by
  intro n
  induction n with
  | zero =>
    refine ⟨?_, ?_, ?_⟩ <;> intros <;> exfalso <;> omega
  | succ n ih =>
    refine ⟨?_, ?_, ?_⟩
    · intro m x2 x3 x4 z0 w f  hn
      refine g_X6_halfAfter_26  ?_
      refine ⟨?_, ?_⟩
      · intro c1
        have k2 := y_ltr (n := 4) rfl c1
        exact ih.2.1 _ _ _ _ _ _ w f (by show 0 * (x2).toInt + 1 < _; omega)
      · intro c3
        have k4 := y_nltr (n := 4) rfl c3
        exact ih.2.1 _ _ _ _ _ _ w f (by show 0 * (x2).toInt + 1 < _; omega)
    · intro m x2 x3 x4 s0 y5 w f  hn
      refine g_X6_halfAfter_38  ?_
      refine ⟨?_, ?_⟩
      · intro c1
        have k2 := z_ne c1
        refine ⟨?_, ?_⟩
        · intro c3
          have k4 := y_ltr (n := 4) rfl c3
          exact ih.2.2 _ _ _ _ _ w f (by show 0 * (x3).toInt < _; omega)
        · intro c5
          have k6 := y_nltr (n := 4) rfl c5
          exact ih.2.2 _ _ _ _ _ w f (by show 0 * (x3).toInt < _; omega)
      · intro c7
        have k8 := z_eq c7
        refine (s_X9_without w).to ?_
        rintro _ m1 ⟨w_m1, g9, w2, rfl⟩
        have f_m1 : Fx (RS []) m0 m1 := f.tr g9 (RS_sub rfl)
        refine ⟨w2, rfl, ?_⟩
        refine (s_X9_packed w_m1 SS_157).to ?_
        rintro _ m3 ⟨w_m3, g10, w4, rfl⟩
        have f_m3 : Fx (RS []) m0 m3 := f_m1.tr g10 (RS_sub rfl)
        refine ⟨w4, rfl, ?_⟩
        refine ⟨?_, ?_⟩
        · intro c11
          have k12 := y_ltr (n := 4) rfl c11
          exact ih.2.2 _ _ _ _ _ w_m3 f_m3 (by show 0 * (x3).toInt < _; omega)
        · intro c13
          have k14 := y_nltr (n := 4) rfl c13
          exact ih.2.2 _ _ _ _ _ w_m3 f_m3 (by show 0 * (x3).toInt < _; omega)
    · intro m x3 x4 s0 y5 w f  hn
      refine g_X6_halfAfter_70  ?_
      refine ⟨?_, ?_⟩
      · intro c1
        have k2 := z_ne c1
        exact ⟨w, f, _, rfl⟩
      · intro c3
        have k4 := z_eq c3
        refine (s_X9_without w).to ?_
        rintro _ m1 ⟨w_m1, g5, w2, rfl⟩
        have f_m1 : Fx (RS []) m0 m1 := f.tr g5 (RS_sub rfl)
        refine ⟨w2, rfl, ?_⟩
        refine (s_X9_packed w_m1 SS_157).to ?_
        rintro _ m3 ⟨w_m3, g6, w4, rfl⟩
        have f_m3 : Fx (RS []) m0 m3 := f_m1.tr g6 (RS_sub rfl)
        refine ⟨w4, rfl, ?_⟩
        exact ⟨w_m3, f_m3, _, rfl⟩
set_option maxHeartbeats 4000000 in
theorem s_X6_halfAfter {ad : Nat → Nat} {d : Nat} {m : Wm} {x1 x2 x3 x4 : Int32} (w : WT m) (i1 : (0 : Int) ≤ x1.toInt) (i2 : x1.toInt ≤ (2999 : Int)) : Ct ad μX6_halfAfter (d + 2) [.ref (ad 156), .int x1, .int x2, .int x3, .int x4] m (fun r m' => WT m' ∧ Fx (RS []) m m' ∧ ∃ v : Int64, r = some (.long v)) := by
  have f : Fx (RS []) m m := Fx.rf
  refine v_X6_halfAfter  ?_
  refine ⟨?_, ?_⟩
  · intro c1
    have k2 := y_eqr (n := 0) rfl c1
    refine ⟨?_, ?_⟩
    · exact vpi (by omega) (by omega)
    · exact (l_X6_halfAfter (m0 := m) 1000000).1 _ _ _ _ _ w f (by show 0 * (x2).toInt + 2 < _; omega)
  · intro c3
    have k4 := y_ner (n := 0) rfl c3
    refine ⟨?_, ?_⟩
    · exact vpi (by omega) (by omega)
    · exact (l_X6_halfAfter (m0 := m) 1000000).1 _ _ _ _ _ w f (by show 0 * (x2).toInt + 2 < _; omega)
set_option maxHeartbeats 4000000 in
theorem l_X6_step {ad : Nat → Nat} {d : Nat} {m0 : Wm}  : ∀ n : Nat, (∀ (m : Wm) (x2 x3 x4 x5 x6 s0 : Int32), WT m → Fx (RS [2, 10, 11]) m0 m → (0 : Int) ≤ x2.toInt → x2.toInt ≤ (2999 : Int) → (0 : Int) ≤ x4.toInt → x4.toInt ≤ (7 : Int) → (0 : Int) ≤ x5.toInt → x5.toInt ≤ (7 : Int) → (x2.toInt < (m.1 151 4).toInt) → ((m.1 151 4).toInt = (m0.1 151 4).toInt) → 0 * x2.toInt + 1 < (n : Int) → AW ad E0 μX6_step (d + 4) (fun r m' => WT m' ∧ Fx (RS [2, 10, 11]) m0 m' ∧ ∃ v : Int32, r = some (.int v) ∧ (0 : Int) ≤ v.toInt ∧ v.toInt ≤ 1 ∧ ((m0.1 151 4).toInt ≤ (m'.1 151 4).toInt)) 40 [(0, .ref (ad 156)), (1, .ref (ad 3)), (2, .int x2), (3, .int x3), (4, .int x4), (5, .int x5), (6, .int x6)] [.int s0] m) ∧ (∀ (m : Wm) (x2 x3 x4 x5 x7 : Int32), WT m → Fx (RS [2, 10, 11]) m0 m → (0 : Int) ≤ x2.toInt → x2.toInt ≤ (2999 : Int) → (0 : Int) ≤ x4.toInt → x4.toInt ≤ (7 : Int) → (0 : Int) ≤ x5.toInt → x5.toInt ≤ (7 : Int) → (x2.toInt < (m.1 151 4).toInt) → ((m.1 151 4).toInt = (m0.1 151 4).toInt) → 0 * x2.toInt < (n : Int) → AW ad E0 μX6_step (d + 4) (fun r m' => WT m' ∧ Fx (RS [2, 10, 11]) m0 m' ∧ ∃ v : Int32, r = some (.int v) ∧ (0 : Int) ≤ v.toInt ∧ v.toInt ≤ 1 ∧ ((m0.1 151 4).toInt ≤ (m'.1 151 4).toInt)) 61 [(0, .ref (ad 156)), (1, .ref (ad 3)), (2, .int x2), (3, .int x3), (4, .int x4), (5, .int x5), (7, .int x7)] [] m) := by
  intro n
  induction n with
  | zero =>
    refine ⟨?_, ?_⟩ <;> intros <;> exfalso <;> omega
  | succ n ih =>
    refine ⟨?_, ?_⟩
    · intro m x2 x3 x4 x5 x6 s0 w f j1 j2 j3 j4 j5 j6 j7 j8 hn
      refine g_X6_step_40  ?_
      refine ⟨?_, ?_⟩
      · intro c1
        have k2 := y_eqr (n := 2) rfl c1
        have r3 := w.at (a := 151) (k := 4) rfl
        exact ⟨w, f, _, rfl, (by show (0 : Int) ≤ (1 : Int); omega), (by show (1 : Int) ≤ (1 : Int); omega), (by show (m0.1 151 4).toInt ≤ ((m.1 151 4)).toInt; omega)⟩
      · intro c4
        have k5 := y_ner (n := 2) rfl c4
        refine ⟨?_, ?_⟩
        · intro c6
          have k7 := y_eqr (n := 0) rfl c6
          have r8 := w.at (a := 151) (k := 4) rfl
          exact ih.2 _ _ _ _ _ _ w f (by show (0 : Int) ≤ (x2).toInt; omega) (by show (x2).toInt ≤ (2999 : Int); omega) (by show (0 : Int) ≤ (x4).toInt; omega) (by show (x4).toInt ≤ (7 : Int); omega) (by show (0 : Int) ≤ (x5).toInt; omega) (by show (x5).toInt ≤ (7 : Int); omega) (by show (x2).toInt < ((m.1 151 4)).toInt; omega) (by show ((m.1 151 4)).toInt = (m0.1 151 4).toInt; omega) (by show 0 * (x2).toInt < _; omega)
        · intro c9
          have k10 := y_ner (n := 0) rfl c9
          refine ⟨?_, ?_⟩
          · intro c11
            have k12 := z_ne c11
            have r13 := w.at (a := 151) (k := 4) rfl
            exact ih.2 _ _ _ _ _ _ w f (by show (0 : Int) ≤ (x2).toInt; omega) (by show (x2).toInt ≤ (2999 : Int); omega) (by show (0 : Int) ≤ (x4).toInt; omega) (by show (x4).toInt ≤ (7 : Int); omega) (by show (0 : Int) ≤ (x5).toInt; omega) (by show (x5).toInt ≤ (7 : Int); omega) (by show (x2).toInt < ((m.1 151 4)).toInt; omega) (by show ((m.1 151 4)).toInt = (m0.1 151 4).toInt; omega) (by show 0 * (x2).toInt < _; omega)
          · intro c14
            have k15 := z_eq c14
            have r16 := w.at (a := 151) (k := 4) rfl
            exact ⟨w, f, _, rfl, (by show (0 : Int) ≤ (1 : Int); omega), (by show (1 : Int) ≤ (1 : Int); omega), (by show (m0.1 151 4).toInt ≤ ((m.1 151 4)).toInt; omega)⟩
    · intro m x2 x3 x4 x5 x7 w f j1 j2 j3 j4 j5 j6 j7 j8 hn
      refine g_X6_step_61  ?_
      refine (s_X1_settle w SS_157 (by show (0 : Int) ≤ (x4).toInt; omega) (by show (x4).toInt ≤ (7 : Int); omega) (by show (0 : Int) ≤ (x5).toInt; omega) (by show (x5).toInt ≤ (7 : Int); omega)).to ?_
      rintro _ m1 ⟨w_m1, g1, rfl⟩
      have f_m1 : Fx (RS [2, 10, 11]) m0 m1 := f.tr g1 (RS_sub rfl)
      have e2 : (m1.1 151 4).toInt = ((m.1 151 4)).toInt := congrArg _ (g1.at (a := 151) (k := 4) (by decide))
      have e3 : (m1.1 151 5).toInt = ((m.1 151 5)).toInt := congrArg _ (g1.at (a := 151) (k := 5) (by decide))
      refine ⟨rfl, ?_⟩
      refine ⟨?_, ?_⟩
      · intro c4
        have k5 := y_ner (n := -1) rfl c4
        refine (s_X6_halfAfter w_m1 (by show (0 : Int) ≤ (x2).toInt; omega) (by show (x2).toInt ≤ (2999 : Int); omega)).to ?_
        rintro _ m2 ⟨w_m2, g6, w3, rfl⟩
        have f_m2 : Fx (RS [2, 10, 11]) m0 m2 := f_m1.tr g6 (RS_sub rfl)
        have e7 : (m2.1 151 4).toInt = ((m1.1 151 4)).toInt := congrArg _ (g6.at (a := 151) (k := 4) (by decide))
        have e8 : (m2.1 151 5).toInt = ((m1.1 151 5)).toInt := congrArg _ (g6.at (a := 151) (k := 5) (by decide))
        refine ⟨w3, rfl, ?_⟩
        refine (s_X6_halfAfter w_m2 (by show (0 : Int) ≤ (x2).toInt; omega) (by show (x2).toInt ≤ (2999 : Int); omega)).to ?_
        rintro _ m4 ⟨w_m4, g9, w5, rfl⟩
        have f_m4 : Fx (RS [2, 10, 11]) m0 m4 := f_m2.tr g9 (RS_sub rfl)
        have e10 : (m4.1 151 4).toInt = ((m2.1 151 4)).toInt := congrArg _ (g9.at (a := 151) (k := 4) (by decide))
        have e11 : (m4.1 151 5).toInt = ((m2.1 151 5)).toInt := congrArg _ (g9.at (a := 151) (k := 5) (by decide))
        refine ⟨w5, rfl, ?_⟩
        refine (s_X9_put w_m4).to ?_
        rintro _ m6 ⟨w_m6, g12, v7, rfl, p17, p18, p13, p14, p15, p16⟩
        have f_m6 : Fx (RS [2, 10, 11]) m0 m6 := f_m4.tr g12 (RS_sub rfl)
        have p19 : ((m4.1 151 4)).toInt ≤ (m6.1 151 4).toInt := p13
        clear p13
        have p20 : (m6.1 151 4).toInt ≤ ((m4.1 151 4)).toInt + 1 := p14
        clear p14
        have p21 : (m6.1 151 5).toInt = 0 ∨ v7.toInt = ((m4.1 151 4)).toInt := p15
        clear p15
        have p22 : 3000 ≤ ((m4.1 151 4)).toInt ∨ 0 ≤ v7.toInt := p16
        clear p16
        refine ⟨v7, rfl, ?_⟩
        refine (s_X9_unpack w_m6 SS_157 (by show (0 : Int) ≤ (x2).toInt; omega) (by show (x2).toInt ≤ (2999 : Int); omega)).to ?_
        rintro _ m8 ⟨w_m8, g23, rfl⟩
        have f_m8 : Fx (RS [2, 10, 11]) m0 m8 := f_m6.tr g23 (RS_sub rfl)
        have e24 : (m8.1 151 4).toInt = ((m6.1 151 4)).toInt := congrArg _ (g23.at (a := 151) (k := 4) (by decide))
        have e25 : (m8.1 151 5).toInt = ((m6.1 151 5)).toInt := congrArg _ (g23.at (a := 151) (k := 5) (by decide))
        refine ⟨rfl, ?_⟩
        refine (s_X9_unpack w_m8 SS_157 (by show (0 : Int) ≤ (x2).toInt; omega) (by show (x2).toInt ≤ (2999 : Int); omega)).to ?_
        rintro _ m9 ⟨w_m9, g26, rfl⟩
        have f_m9 : Fx (RS [2, 10, 11]) m0 m9 := f_m8.tr g26 (RS_sub rfl)
        have e27 : (m9.1 151 4).toInt = ((m8.1 151 4)).toInt := congrArg _ (g26.at (a := 151) (k := 4) (by decide))
        have e28 : (m9.1 151 5).toInt = ((m8.1 151 5)).toInt := congrArg _ (g26.at (a := 151) (k := 5) (by decide))
        refine ⟨rfl, ?_⟩
        refine ⟨?_, ?_⟩
        · intro c29
          have k30 := y_ner (n := -1) rfl c29
          refine ⟨?_, ?_⟩
          · intro c31
            have k32 := y_eqr (n := 0) rfl c31
            have r33 := w_m9.at (a := 151) (k := 4) rfl
            exact ⟨w_m9, f_m9, _, rfl, (by show (0 : Int) ≤ (1 : Int); omega), (by show (1 : Int) ≤ (1 : Int); omega), (by show (m0.1 151 4).toInt ≤ ((m9.1 151 4)).toInt; omega)⟩
          · intro c34
            have k35 := y_ner (n := 0) rfl c34
            refine ⟨?_, ?_⟩
            · exact vpi (by omega) (by omega)
            · refine ⟨?_, ?_⟩
              · exact vpi (by omega) (by omega)
              · refine ⟨?_, ?_⟩
                · exact vpi (by omega) (by omega)
                · refine ⟨?_, ?_⟩
                  · exact vpi (by omega) (by omega)
                  · have w36 : WT (uI m9 163 v7.toNatClampNeg x2) := w_m9.t rfl (by show ((-1) : Int) ≤ (x2).toInt; omega) (by show (x2).toInt ≤ 2999; omega)
                    have f36 : Fx (RS [2, 10, 11]) m0 (uI m9 163 v7.toNatClampNeg x2) := f_m9.i rfl
                    have w37 : WT (uI (uI m9 163 v7.toNatClampNeg x2) 164 v7.toNatClampNeg ((((100 : Int32) * x3) + ((10 : Int32) * x4)) + x5)) := w36.n rfl
                    have f37 : Fx (RS [2, 10, 11]) m0 (uI (uI m9 163 v7.toNatClampNeg x2) 164 v7.toNatClampNeg ((((100 : Int32) * x3) + ((10 : Int32) * x4)) + x5)) := f36.i rfl
                    have r39 := w_m9.at (a := 165) (k := x2.toNatClampNeg) rfl
                    have t40 := tn (x := x2) (by omega)
                    have t41 := ti_addc (x := (m9.1 165 x2.toNatClampNeg)) (y := (1 : Int32)) (c := 1) rfl (by omega)
                    have t42 := tn (x := v7) (by omega)
                    have w38 : WT (uI (uI (uI m9 163 v7.toNatClampNeg x2) 164 v7.toNatClampNeg ((((100 : Int32) * x3) + ((10 : Int32) * x4)) + x5)) 165 v7.toNatClampNeg (((uI (uI m9 163 v7.toNatClampNeg x2) 164 v7.toNatClampNeg ((((100 : Int32) * x3) + ((10 : Int32) * x4)) + x5)).1 165 x2.toNatClampNeg) + (1 : Int32))) := w37.t rfl (by show (0 : Int) ≤ (((m9.1 165 x2.toNatClampNeg) + (1 : Int32))).toInt; omega) (by show (((m9.1 165 x2.toNatClampNeg) + (1 : Int32))).toInt ≤ ((v7.toNatClampNeg : Nat) : Int); omega)
                    have f38 : Fx (RS [2, 10, 11]) m0 (uI (uI (uI m9 163 v7.toNatClampNeg x2) 164 v7.toNatClampNeg ((((100 : Int32) * x3) + ((10 : Int32) * x4)) + x5)) 165 v7.toNatClampNeg (((uI (uI m9 163 v7.toNatClampNeg x2) 164 v7.toNatClampNeg ((((100 : Int32) * x3) + ((10 : Int32) * x4)) + x5)).1 165 x2.toNatClampNeg) + (1 : Int32))) := f37.i rfl
                    have r43 := w_m9.at (a := 151) (k := 4) rfl
                    exact ⟨w38, f38, _, rfl, (by show (0 : Int) ≤ (1 : Int); omega), (by show (1 : Int) ≤ (1 : Int); omega), (by show (m0.1 151 4).toInt ≤ ((m9.1 151 4)).toInt; omega)⟩
        · intro c44
          have k45 := y_eqr (n := -1) rfl c44
          have r46 := w_m9.at (a := 151) (k := 4) rfl
          exact ⟨w_m9, f_m9, _, rfl, (by show (0 : Int) ≤ (0 : Int); omega), (by show (0 : Int) ≤ (1 : Int); omega), (by show (m0.1 151 4).toInt ≤ ((m9.1 151 4)).toInt; omega)⟩
      · intro c47
        have k48 := y_eqr (n := -1) rfl c47
        have r49 := w_m1.at (a := 151) (k := 4) rfl
        exact ⟨w_m1, f_m1, _, rfl, (by show (0 : Int) ≤ (1 : Int); omega), (by show (1 : Int) ≤ (1 : Int); omega), (by show (m0.1 151 4).toInt ≤ ((m1.1 151 4)).toInt; omega)⟩
set_option maxHeartbeats 4000000 in
theorem s_X6_step {ad : Nat → Nat} {d : Nat} {m : Wm} {x2 x3 x4 x5 : Int32} (w : WT m) (i1 : (0 : Int) ≤ x2.toInt) (i2 : x2.toInt ≤ (2999 : Int)) (i3 : (0 : Int) ≤ x4.toInt) (i4 : x4.toInt ≤ (7 : Int)) (i5 : (0 : Int) ≤ x5.toInt) (i6 : x5.toInt ≤ (7 : Int)) (i7 : x2.toInt < (m.1 151 4).toInt) : Ct ad μX6_step (d + 4) [.ref (ad 156), .ref (ad 3), .int x2, .int x3, .int x4, .int x5] m (fun r m' => WT m' ∧ Fx (RS [2, 10, 11]) m m' ∧ ∃ v : Int32, r = some (.int v) ∧ (0 : Int) ≤ v.toInt ∧ v.toInt ≤ 1 ∧ ((m.1 151 4).toInt ≤ (m'.1 151 4).toInt)) := by
  have f : Fx (RS [2, 10, 11]) m m := Fx.rf
  refine v_X6_step  ?_
  refine ⟨?_, ?_⟩
  · exact vpi (by omega) (by omega)
  · refine ⟨?_, ?_⟩
    · exact vpi (by omega) (by omega)
    · refine (s_X1_resultOf w).to ?_
      rintro _ m1 ⟨w_m1, g1, v2, rfl, p2, p3⟩
      have f_m1 : Fx (RS [2, 10, 11]) m m1 := f.tr g1 (RS_sub rfl)
      have e4 : (m1.1 151 4).toInt = ((m.1 151 4)).toInt := congrArg _ (g1.at (a := 151) (k := 4) (by decide))
      have e5 : (m1.1 151 5).toInt = ((m.1 151 5)).toInt := congrArg _ (g1.at (a := 151) (k := 5) (by decide))
      refine ⟨v2, rfl, ?_⟩
      refine ⟨?_, ?_⟩
      · intro c6
        have k7 := y_ner (n := 0) rfl c6
        refine ⟨?_, ?_⟩
        · intro c8
          have k9 := y_ner (n := 1) rfl c8
          have r10 := w_m1.at (a := 151) (k := 4) rfl
          exact (l_X6_step (m0 := m) 1000000).1 _ _ _ _ _ _ _ w_m1 f_m1 (by show (0 : Int) ≤ (x2).toInt; omega) (by show (x2).toInt ≤ (2999 : Int); omega) (by show (0 : Int) ≤ (x4).toInt; omega) (by show (x4).toInt ≤ (7 : Int); omega) (by show (0 : Int) ≤ (x5).toInt; omega) (by show (x5).toInt ≤ (7 : Int); omega) (by show (x2).toInt < ((m1.1 151 4)).toInt; omega) (by show ((m1.1 151 4)).toInt = (m.1 151 4).toInt; omega) (by show 0 * (x2).toInt + 1 < _; omega)
        · intro c11
          have k12 := y_eqr (n := 1) rfl c11
          have r13 := w_m1.at (a := 151) (k := 4) rfl
          exact (l_X6_step (m0 := m) 1000000).1 _ _ _ _ _ _ _ w_m1 f_m1 (by show (0 : Int) ≤ (x2).toInt; omega) (by show (x2).toInt ≤ (2999 : Int); omega) (by show (0 : Int) ≤ (x4).toInt; omega) (by show (x4).toInt ≤ (7 : Int); omega) (by show (0 : Int) ≤ (x5).toInt; omega) (by show (x5).toInt ≤ (7 : Int); omega) (by show (x2).toInt < ((m1.1 151 4)).toInt; omega) (by show ((m1.1 151 4)).toInt = (m.1 151 4).toInt; omega) (by show 0 * (x2).toInt + 1 < _; omega)
      · intro c14
        have k15 := y_eqr (n := 0) rfl c14
        have r16 := w_m1.at (a := 151) (k := 4) rfl
        exact (l_X6_step (m0 := m) 1000000).1 _ _ _ _ _ _ _ w_m1 f_m1 (by show (0 : Int) ≤ (x2).toInt; omega) (by show (x2).toInt ≤ (2999 : Int); omega) (by show (0 : Int) ≤ (x4).toInt; omega) (by show (x4).toInt ≤ (7 : Int); omega) (by show (0 : Int) ≤ (x5).toInt; omega) (by show (x5).toInt ≤ (7 : Int); omega) (by show (x2).toInt < ((m1.1 151 4)).toInt; omega) (by show ((m1.1 151 4)).toInt = (m.1 151 4).toInt; omega) (by show 0 * (x2).toInt + 1 < _; omega)
set_option maxHeartbeats 4000000 in
theorem l_X6_expand {ad : Nat → Nat} {d : Nat} {m0 : Wm}  : ∀ n : Nat, (∀ (m : Wm) (x2 x3 : Int32), WT m → Fx (RS [2, 10, 11, 14]) m0 m → (0 : Int) ≤ x2.toInt → x2.toInt ≤ (2999 : Int) → (0 : Int) ≤ x3.toInt → x3.toInt ≤ (8 : Int) → (x2.toInt < (m.1 151 4).toInt) → ((m0.1 151 4).toInt ≤ (m.1 151 4).toInt) → 10000 - x3.toInt < (n : Int) → AW ad E0 μX6_expand (d + 5) (fun r m' => WT m' ∧ Fx (RS [2, 10, 11, 14]) m0 m' ∧ ∃ v : Int32, r = some (.int v) ∧ (0 : Int) ≤ v.toInt ∧ v.toInt ≤ 1 ∧ ((m0.1 151 4).toInt ≤ (m'.1 151 4).toInt)) 8 [(0, .ref (ad 156)), (1, .ref (ad 3)), (2, .int x2), (3, .int x3)] [] m) ∧ (∀ (m : Wm) (x2 x3 : Int32), WT m → Fx (RS [2, 10, 11, 14]) m0 m → (0 : Int) ≤ x2.toInt → x2.toInt ≤ (2999 : Int) → (0 : Int) ≤ x3.toInt → x3.toInt ≤ (3 : Int) → (x2.toInt < (m.1 151 4).toInt) → ((m0.1 151 4).toInt ≤ (m.1 151 4).toInt) → (3 - x3.toInt) * 1000 + 900 < (n : Int) → AW ad E0 μX6_expand (d + 5) (fun r m' => WT m' ∧ Fx (RS [2, 10, 11, 14]) m0 m' ∧ ∃ v : Int32, r = some (.int v) ∧ (0 : Int) ≤ v.toInt ∧ v.toInt ≤ 1 ∧ ((m0.1 151 4).toInt ≤ (m'.1 151 4).toInt)) 39 [(0, .ref (ad 156)), (1, .ref (ad 3)), (2, .int x2), (3, .int x3)] [] m) ∧ (∀ (m : Wm) (x2 x3 x4 : Int32), WT m → Fx (RS [2, 10, 11, 14]) m0 m → (0 : Int) ≤ x2.toInt → x2.toInt ≤ (2999 : Int) → (0 : Int) ≤ x3.toInt → x3.toInt ≤ (2 : Int) → (0 : Int) ≤ x4.toInt → x4.toInt ≤ (8 : Int) → (x2.toInt < (m.1 151 4).toInt) → ((m0.1 151 4).toInt ≤ (m.1 151 4).toInt) → (3 - x3.toInt) * 1000 + (8 - x4.toInt) * 20 + 15 < (n : Int) → AW ad E0 μX6_expand (d + 5) (fun r m' => WT m' ∧ Fx (RS [2, 10, 11, 14]) m0 m' ∧ ∃ v : Int32, r = some (.int v) ∧ (0 : Int) ≤ v.toInt ∧ v.toInt ≤ 1 ∧ ((m0.1 151 4).toInt ≤ (m'.1 151 4).toInt)) 47 [(0, .ref (ad 156)), (1, .ref (ad 3)), (2, .int x2), (3, .int x3), (4, .int x4)] [] m) ∧ (∀ (m : Wm) (x2 x3 x4 x5 : Int32), WT m → Fx (RS [2, 10, 11, 14]) m0 m → (0 : Int) ≤ x2.toInt → x2.toInt ≤ (2999 : Int) → (0 : Int) ≤ x3.toInt → x3.toInt ≤ (2 : Int) → (0 : Int) ≤ x4.toInt → x4.toInt ≤ (7 : Int) → (0 : Int) ≤ x5.toInt → x5.toInt ≤ (8 : Int) → (x2.toInt < (m.1 151 4).toInt) → ((m0.1 151 4).toInt ≤ (m.1 151 4).toInt) → (3 - x3.toInt) * 1000 + (8 - x4.toInt) * 20 + 10 - x5.toInt < (n : Int) → AW ad E0 μX6_expand (d + 5) (fun r m' => WT m' ∧ Fx (RS [2, 10, 11, 14]) m0 m' ∧ ∃ v : Int32, r = some (.int v) ∧ (0 : Int) ≤ v.toInt ∧ v.toInt ≤ 1 ∧ ((m0.1 151 4).toInt ≤ (m'.1 151 4).toInt)) 62 [(0, .ref (ad 156)), (1, .ref (ad 3)), (2, .int x2), (3, .int x3), (4, .int x4), (5, .int x5)] [] m) := by
  intro n
  induction n with
  | zero =>
    refine ⟨?_, ?_, ?_, ?_⟩ <;> intros <;> exfalso <;> omega
  | succ n ih =>
    refine ⟨?_, ?_, ?_, ?_⟩
    · intro m x2 x3 w f j1 j2 j3 j4 j5 j6 hn
      refine g_X6_expand_8  ?_
      refine ⟨?_, ?_⟩
      · intro c1
        have r2 := w.at (a := 3) (k := 3) rfl
        have k3 := z_le c1
        have r4 := w.at (a := 151) (k := 4) rfl
        exact ih.2.1 _ _ _ w f (by show (0 : Int) ≤ (x2).toInt; omega) (by show (x2).toInt ≤ (2999 : Int); omega) (by show (0 : Int) ≤ (0 : Int); omega) (by show (0 : Int) ≤ (3 : Int); omega) (by show (x2).toInt < ((m.1 151 4)).toInt; omega) (by show (m0.1 151 4).toInt ≤ ((m.1 151 4)).toInt; omega) (by show (3 - (0 : Int)) * 1000 + 900 < _; omega)
      · intro c5
        have r6 := w.at (a := 3) (k := 3) rfl
        have k7 := z_nle c5
        refine (s_X1_power w SS_157 (by show (0 : Int) ≤ (x3).toInt; omega) (by show (x3).toInt ≤ (7 : Int); omega)).to ?_
        rintro _ m1 ⟨w_m1, g8, v2, rfl⟩
        have f_m1 : Fx (RS [2, 10, 11, 14]) m0 m1 := f.tr g8 (RS_sub rfl)
        have e9 : (m1.1 151 4).toInt = ((m.1 151 4)).toInt := congrArg _ (g8.at (a := 151) (k := 4) (by decide))
        refine ⟨v2, rfl, ?_⟩
        refine ⟨?_, ?_⟩
        · exact vpi (by omega) (by omega)
        · have w10 : WT (uI m1 162 x3.toNatClampNeg v2) := w_m1.n rfl
          have f10 : Fx (RS [2, 10, 11, 14]) m0 (uI m1 162 x3.toNatClampNeg v2) := f_m1.i rfl
          have t11 := ti_addc (x := x3) (y := (1 : Int32)) (c := 1) rfl (by omega)
          have r12 := w_m1.at (a := 151) (k := 4) rfl
          exact ih.1 _ _ _ w10 f10 (by show (0 : Int) ≤ (x2).toInt; omega) (by show (x2).toInt ≤ (2999 : Int); omega) (by show (0 : Int) ≤ ((x3 + (1 : Int32))).toInt; omega) (by show ((x3 + (1 : Int32))).toInt ≤ (8 : Int); omega) (by show (x2).toInt < ((m1.1 151 4)).toInt; omega) (by show (m0.1 151 4).toInt ≤ ((m1.1 151 4)).toInt; omega) (by show 10000 - ((x3 + (1 : Int32))).toInt < _; omega)
    · intro m x2 x3 w f j1 j2 j3 j4 j5 j6 hn
      refine g_X6_expand_39  ?_
      refine ⟨?_, ?_⟩
      · intro c1
        have k2 := y_lel (n := 3) rfl c1
        have r3 := w.at (a := 151) (k := 4) rfl
        exact ⟨w, f, _, rfl, (by show (0 : Int) ≤ (1 : Int); omega), (by show (1 : Int) ≤ (1 : Int); omega), (by show (m0.1 151 4).toInt ≤ ((m.1 151 4)).toInt; omega)⟩
      · intro c4
        have k5 := y_nlel (n := 3) rfl c4
        have r6 := w.at (a := 151) (k := 4) rfl
        exact ih.2.2.1 _ _ _ _ w f (by show (0 : Int) ≤ (x2).toInt; omega) (by show (x2).toInt ≤ (2999 : Int); omega) (by show (0 : Int) ≤ (x3).toInt; omega) (by show (x3).toInt ≤ (2 : Int); omega) (by show (0 : Int) ≤ (0 : Int); omega) (by show (0 : Int) ≤ (8 : Int); omega) (by show (x2).toInt < ((m.1 151 4)).toInt; omega) (by show (m0.1 151 4).toInt ≤ ((m.1 151 4)).toInt; omega) (by show (3 - (x3).toInt) * 1000 + (8 - (0 : Int)) * 20 + 15 < _; omega)
    · intro m x2 x3 x4 w f j1 j2 j3 j4 j5 j6 j7 j8 hn
      refine g_X6_expand_47  ?_
      refine ⟨?_, ?_⟩
      · intro c1
        have r2 := w.at (a := 3) (k := 3) rfl
        have k3 := z_le c1
        have t4 := ti_addc (x := x3) (y := (1 : Int32)) (c := 1) rfl (by omega)
        have r5 := w.at (a := 151) (k := 4) rfl
        exact ih.2.1 _ _ _ w f (by show (0 : Int) ≤ (x2).toInt; omega) (by show (x2).toInt ≤ (2999 : Int); omega) (by show (0 : Int) ≤ ((x3 + (1 : Int32))).toInt; omega) (by show ((x3 + (1 : Int32))).toInt ≤ (3 : Int); omega) (by show (x2).toInt < ((m.1 151 4)).toInt; omega) (by show (m0.1 151 4).toInt ≤ ((m.1 151 4)).toInt; omega) (by show (3 - ((x3 + (1 : Int32))).toInt) * 1000 + 900 < _; omega)
      · intro c6
        have r7 := w.at (a := 3) (k := 3) rfl
        have k8 := z_nle c6
        have t9 := ti_addc (x := x4) (y := (1 : Int32)) (c := 1) rfl (by omega)
        have r10 := w.at (a := 151) (k := 4) rfl
        exact ih.2.2.2 _ _ _ _ _ w f (by show (0 : Int) ≤ (x2).toInt; omega) (by show (x2).toInt ≤ (2999 : Int); omega) (by show (0 : Int) ≤ (x3).toInt; omega) (by show (x3).toInt ≤ (2 : Int); omega) (by show (0 : Int) ≤ (x4).toInt; omega) (by show (x4).toInt ≤ (7 : Int); omega) (by show (0 : Int) ≤ ((x4 + (1 : Int32))).toInt; omega) (by show ((x4 + (1 : Int32))).toInt ≤ (8 : Int); omega) (by show (x2).toInt < ((m.1 151 4)).toInt; omega) (by show (m0.1 151 4).toInt ≤ ((m.1 151 4)).toInt; omega) (by show (3 - (x3).toInt) * 1000 + (8 - (x4).toInt) * 20 + 10 - ((x4 + (1 : Int32))).toInt < _; omega)
    · intro m x2 x3 x4 x5 w f j1 j2 j3 j4 j5 j6 j7 j8 j9 j10 hn
      refine g_X6_expand_62  ?_
      refine ⟨?_, ?_⟩
      · intro c1
        have r2 := w.at (a := 3) (k := 3) rfl
        have k3 := z_le c1
        have t4 := ti_addc (x := x4) (y := (1 : Int32)) (c := 1) rfl (by omega)
        have r5 := w.at (a := 151) (k := 4) rfl
        exact ih.2.2.1 _ _ _ _ w f (by show (0 : Int) ≤ (x2).toInt; omega) (by show (x2).toInt ≤ (2999 : Int); omega) (by show (0 : Int) ≤ (x3).toInt; omega) (by show (x3).toInt ≤ (2 : Int); omega) (by show (0 : Int) ≤ ((x4 + (1 : Int32))).toInt; omega) (by show ((x4 + (1 : Int32))).toInt ≤ (8 : Int); omega) (by show (x2).toInt < ((m.1 151 4)).toInt; omega) (by show (m0.1 151 4).toInt ≤ ((m.1 151 4)).toInt; omega) (by show (3 - (x3).toInt) * 1000 + (8 - ((x4 + (1 : Int32))).toInt) * 20 + 15 < _; omega)
      · intro c6
        have r7 := w.at (a := 3) (k := 3) rfl
        have k8 := z_nle c6
        have r9 := w.at (a := 151) (k := 4) rfl
        refine (s_X6_step w (by show (0 : Int) ≤ (x2).toInt; omega) (by show (x2).toInt ≤ (2999 : Int); omega) (by show (0 : Int) ≤ (x4).toInt; omega) (by show (x4).toInt ≤ (7 : Int); omega) (by show (0 : Int) ≤ (x5).toInt; omega) (by show (x5).toInt ≤ (7 : Int); omega) (by show (x2).toInt < ((m.1 151 4)).toInt; omega)).to ?_
        rintro _ m1 ⟨w_m1, g10, v2, rfl, p12, p13, p11⟩
        have f_m1 : Fx (RS [2, 10, 11, 14]) m0 m1 := f.tr g10 (RS_sub rfl)
        have p14 : ((m.1 151 4)).toInt ≤ (m1.1 151 4).toInt := p11
        clear p11
        refine ⟨v2, rfl, ?_⟩
        refine ⟨?_, ?_⟩
        · intro c15
          have k16 := y_ner (n := 0) rfl c15
          have t17 := ti_addc (x := x5) (y := (1 : Int32)) (c := 1) rfl (by omega)
          have r18 := w_m1.at (a := 151) (k := 4) rfl
          exact ih.2.2.2 _ _ _ _ _ w_m1 f_m1 (by show (0 : Int) ≤ (x2).toInt; omega) (by show (x2).toInt ≤ (2999 : Int); omega) (by show (0 : Int) ≤ (x3).toInt; omega) (by show (x3).toInt ≤ (2 : Int); omega) (by show (0 : Int) ≤ (x4).toInt; omega) (by show (x4).toInt ≤ (7 : Int); omega) (by show (0 : Int) ≤ ((x5 + (1 : Int32))).toInt; omega) (by show ((x5 + (1 : Int32))).toInt ≤ (8 : Int); omega) (by show (x2).toInt < ((m1.1 151 4)).toInt; omega) (by show (m0.1 151 4).toInt ≤ ((m1.1 151 4)).toInt; omega) (by show (3 - (x3).toInt) * 1000 + (8 - (x4).toInt) * 20 + 10 - ((x5 + (1 : Int32))).toInt < _; omega)
        · intro c19
          have k20 := y_eqr (n := 0) rfl c19
          have r21 := w_m1.at (a := 151) (k := 4) rfl
          exact ⟨w_m1, f_m1, _, rfl, (by show (0 : Int) ≤ (0 : Int); omega), (by show (0 : Int) ≤ (1 : Int); omega), (by show (m0.1 151 4).toInt ≤ ((m1.1 151 4)).toInt; omega)⟩
set_option maxHeartbeats 4000000 in
theorem s_X6_expand {ad : Nat → Nat} {d : Nat} {m : Wm} {x2 : Int32} (w : WT m) (i1 : (0 : Int) ≤ x2.toInt) (i2 : x2.toInt ≤ (2999 : Int)) (i3 : x2.toInt < (m.1 151 4).toInt) : Ct ad μX6_expand (d + 5) [.ref (ad 156), .ref (ad 3), .int x2] m (fun r m' => WT m' ∧ Fx (RS [2, 10, 11, 14]) m m' ∧ ∃ v : Int32, r = some (.int v) ∧ (0 : Int) ≤ v.toInt ∧ v.toInt ≤ 1 ∧ ((m.1 151 4).toInt ≤ (m'.1 151 4).toInt)) := by
  have f : Fx (RS [2, 10, 11, 14]) m m := Fx.rf
  refine v_X6_expand  ?_
  refine (s_X6_unpackAll w (by show (0 : Int) ≤ (x2).toInt; omega) (by show (x2).toInt ≤ (2999 : Int); omega)).to ?_
  rintro _ m1 ⟨w_m1, g1, rfl⟩
  have f_m1 : Fx (RS [2, 10, 11, 14]) m m1 := f.tr g1 (RS_sub rfl)
  have e2 : (m1.1 151 4).toInt = ((m.1 151 4)).toInt := congrArg _ (g1.at (a := 151) (k := 4) (by decide))
  refine ⟨rfl, ?_⟩
  have r3 := w_m1.at (a := 151) (k := 4) rfl
  exact (l_X6_expand (m0 := m) 1000000).1 _ _ _ w_m1 f_m1 (by show (0 : Int) ≤ (x2).toInt; omega) (by show (x2).toInt ≤ (2999 : Int); omega) (by show (0 : Int) ≤ (0 : Int); omega) (by show (0 : Int) ≤ (8 : Int); omega) (by show (x2).toInt < ((m1.1 151 4)).toInt; omega) (by show (m.1 151 4).toInt ≤ ((m1.1 151 4)).toInt; omega) (by show 10000 - (0 : Int) < _; omega)
set_option maxHeartbeats 4000000 in
theorem l_X6_explore {ad : Nat → Nat} {d : Nat} {m0 : Wm}  : ∀ n : Nat, (∀ (m : Wm) (x3 x4 : Int32), WT m → Fx (RS [2, 10, 11, 14]) m0 m → (0 : Int) ≤ x4.toInt → x4.toInt ≤ (3000 : Int) → 3000 - x4.toInt < (n : Int) → AW ad E0 μX6_explore (d + 6) (fun r m' => WT m' ∧ Fx (RS [2, 10, 11, 14]) m0 m' ∧ ∃ v : Int32, r = some (.int v) ∧ (0 : Int) ≤ v.toInt ∧ v.toInt ≤ 1) 51 [(0, .ref (ad 156)), (1, .ref (ad 3)), (3, .int x3), (4, .int x4)] [] m) := by
  intro n
  induction n with
  | zero =>
    intros
    exfalso
    omega
  | succ n ih =>
    intro m x3 x4 w f j1 j2 hn
    refine g_X6_explore_51  ?_
    refine ⟨?_, ?_⟩
    · intro c1
      have k2 := y_lel (n := 3000) rfl c1
      exact ⟨w, f, _, rfl, (by show (0 : Int) ≤ (1 : Int); omega), (by show (1 : Int) ≤ (1 : Int); omega)⟩
    · intro c3
      have k4 := y_nlel (n := 3000) rfl c3
      refine ⟨?_, ?_⟩
      · intro c5
        have r6 := w.at (a := 151) (k := 4) rfl
        have k7 := z_le c5
        exact ⟨w, f, _, rfl, (by show (0 : Int) ≤ (1 : Int); omega), (by show (1 : Int) ≤ (1 : Int); omega)⟩
      · intro c8
        have r9 := w.at (a := 151) (k := 4) rfl
        have k10 := z_nle c8
        refine ⟨?_, ?_⟩
        · exact vpi (by omega) (by omega)
        · refine ⟨?_, ?_⟩
          · intro c11
            have r12 := w.at (a := 165) (k := x4.toNatClampNeg) rfl
            have t13 := tn (x := x4) (by omega)
            have k14 := z_lt c11
            refine (s_X6_expand w (by show (0 : Int) ≤ (x4).toInt; omega) (by show (x4).toInt ≤ (2999 : Int); omega) (by show (x4).toInt < ((m.1 151 4)).toInt; omega)).to ?_
            rintro _ m1 ⟨w_m1, g15, v2, rfl, p17, p18, p16⟩
            have f_m1 : Fx (RS [2, 10, 11, 14]) m0 m1 := f.tr g15 (RS_sub rfl)
            have p19 : ((m.1 151 4)).toInt ≤ (m1.1 151 4).toInt := p16
            clear p16
            refine ⟨v2, rfl, ?_⟩
            refine ⟨?_, ?_⟩
            · intro c20
              have k21 := y_ner (n := 0) rfl c20
              have t22 := ti_addc (x := x4) (y := (1 : Int32)) (c := 1) rfl (by omega)
              exact ih _ _ _ w_m1 f_m1 (by show (0 : Int) ≤ ((x4 + (1 : Int32))).toInt; omega) (by show ((x4 + (1 : Int32))).toInt ≤ (3000 : Int); omega) (by show 3000 - ((x4 + (1 : Int32))).toInt < _; omega)
            · intro c23
              have k24 := y_eqr (n := 0) rfl c23
              exact ⟨w_m1, f_m1, _, rfl, (by show (0 : Int) ≤ (0 : Int); omega), (by show (0 : Int) ≤ (1 : Int); omega)⟩
          · intro c25
            have r26 := w.at (a := 165) (k := x4.toNatClampNeg) rfl
            have t27 := tn (x := x4) (by omega)
            have k28 := z_nlt c25
            exact ⟨w, f, _, rfl, (by show (0 : Int) ≤ (1 : Int); omega), (by show (1 : Int) ≤ (1 : Int); omega)⟩
set_option maxHeartbeats 4000000 in
theorem s_X6_explore {ad : Nat → Nat} {d : Nat} {m : Wm} {x3 : Int32} (w : WT m) : Ct ad μX6_explore (d + 6) [.ref (ad 156), .ref (ad 3), .ref (ad 21), .int x3] m (fun r m' => WT m' ∧ Fx (RS [2, 10, 11, 14]) m m' ∧ ∃ v : Int32, r = some (.int v) ∧ (0 : Int) ≤ v.toInt ∧ v.toInt ≤ 1) := by
  have f : Fx (RS [2, 10, 11, 14]) m m := Fx.rf
  refine v_X6_explore St_21 ?_
  refine (s_X8_copy w SS_157 SS_21).to ?_
  rintro _ m1 ⟨w_m1, g1, rfl⟩
  have f_m1 : Fx (RS [2, 10, 11, 14]) m m1 := f.tr g1 (RS_sub rfl)
  refine ⟨rfl, ?_⟩
  refine (s_X9_clear w_m1).to ?_
  rintro _ m2 ⟨w_m2, g2, rfl, p3⟩
  have f_m2 : Fx (RS [2, 10, 11, 14]) m m2 := f_m1.tr g2 (RS_sub rfl)
  have p4 : (m2.1 151 4).toInt = 0 := p3
  clear p3
  refine ⟨rfl, ?_⟩
  refine (s_X9_putSkillsOf w_m2 SS_157).to ?_
  rintro _ m3 ⟨w_m3, g5, v4, rfl, p10, p11, p6, p7, p8, p9⟩
  have f_m3 : Fx (RS [2, 10, 11, 14]) m m3 := f_m2.tr g5 (RS_sub rfl)
  have p12 : ((m2.1 151 4)).toInt ≤ (m3.1 151 4).toInt := p6
  clear p6
  have p13 : (m3.1 151 4).toInt ≤ ((m2.1 151 4)).toInt + 1 := p7
  clear p7
  have p14 : (m3.1 151 5).toInt = 0 ∨ v4.toInt = ((m2.1 151 4)).toInt := p8
  clear p8
  have p15 : 3000 ≤ ((m2.1 151 4)).toInt ∨ 0 ≤ v4.toInt := p9
  clear p9
  refine ⟨v4, rfl, ?_⟩
  have w16 : WT (uI m3 163 ((0 : Int32).toNatClampNeg) (-1 : Int32)) := w_m3.t rfl (by show ((-1) : Int) ≤ (-1 : Int); omega) (by show (-1 : Int) ≤ 2999; omega)
  have f16 : Fx (RS [2, 10, 11, 14]) m (uI m3 163 ((0 : Int32).toNatClampNeg) (-1 : Int32)) := f_m3.i rfl
  have w17 : WT (uI (uI m3 163 ((0 : Int32).toNatClampNeg) (-1 : Int32)) 164 ((0 : Int32).toNatClampNeg) (-1 : Int32)) := w16.n rfl
  have f17 : Fx (RS [2, 10, 11, 14]) m (uI (uI m3 163 ((0 : Int32).toNatClampNeg) (-1 : Int32)) 164 ((0 : Int32).toNatClampNeg) (-1 : Int32)) := f16.i rfl
  have w18 : WT (uI (uI (uI m3 163 ((0 : Int32).toNatClampNeg) (-1 : Int32)) 164 ((0 : Int32).toNatClampNeg) (-1 : Int32)) 165 ((0 : Int32).toNatClampNeg) (0 : Int32)) := w17.t rfl (by show (0 : Int) ≤ (0 : Int); decide) (by show (0 : Int) ≤ (((0 : Int32).toNatClampNeg : Nat) : Int); decide)
  have f18 : Fx (RS [2, 10, 11, 14]) m (uI (uI (uI m3 163 ((0 : Int32).toNatClampNeg) (-1 : Int32)) 164 ((0 : Int32).toNatClampNeg) (-1 : Int32)) 165 ((0 : Int32).toNatClampNeg) (0 : Int32)) := f17.i rfl
  exact (l_X6_explore (m0 := m) 1000000) _ _ _ w18 f18 (by show (0 : Int) ≤ (0 : Int); omega) (by show (0 : Int) ≤ (3000 : Int); omega) (by show 3000 - (0 : Int) < _; omega)
set_option maxHeartbeats 4000000 in
theorem l_X6_fillWay {ad : Nat → Nat} {d : Nat} {m0 : Wm}  : ∀ n : Nat, (∀ (m : Wm) (x3 x4 : Int32), WT m → Fx (RS [9]) m0 m → (-1 : Int) ≤ x3.toInt → x3.toInt ≤ (2999 : Int) → (0 : Int) ≤ x4.toInt → x4.toInt ≤ (3000 : Int) → x4.toInt * 2 + 1 < (n : Int) → AW ad E0 μX6_fillWay d (fun r m' => WT m' ∧ Fx (RS [9]) m0 m' ∧ r = none) 10 [(0, .ref (ad 156)), (2, .ref (ad 150)), (3, .int x3), (4, .int x4)] [] m) ∧ (∀ (m : Wm) (x3 x4 : Int32), WT m → Fx (RS [9]) m0 m → (0 : Int) ≤ x3.toInt → x3.toInt ≤ (2999 : Int) → (1 : Int) ≤ x4.toInt → x4.toInt ≤ (3000 : Int) → x4.toInt * 2 < (n : Int) → AW ad E0 μX6_fillWay d (fun r m' => WT m' ∧ Fx (RS [9]) m0 m' ∧ r = none) 39 [(0, .ref (ad 156)), (2, .ref (ad 150)), (3, .int x3), (4, .int x4)] [] m) := by
  intro n
  induction n with
  | zero =>
    refine ⟨?_, ?_⟩ <;> intros <;> exfalso <;> omega
  | succ n ih =>
    refine ⟨?_, ?_⟩
    · intro m x3 x4 w f j1 j2 j3 j4 hn
      refine g_X6_fillWay_10 ly_150 ?_
      have tof : (Int32.ofNat 10).toInt = 10 := rfl
      refine ⟨?_, ?_⟩
      · intro c1
        have k2 := y_ler (n := 0) rfl c1
        exact ⟨w, f, rfl⟩
      · intro c3
        have k4 := y_nler (n := 0) rfl c3
        refine ⟨?_, ?_⟩
        · intro c5
          have k6 := y_ltr (n := 0) rfl c5
          exact ⟨w, f, rfl⟩
        · intro c7
          have k8 := y_nltr (n := 0) rfl c7
          refine ⟨?_, ?_⟩
          · intro c9
            have k10 := z_lt c9
            exact ih.2 _ _ _ w f (by show (0 : Int) ≤ (x3).toInt; omega) (by show (x3).toInt ≤ (2999 : Int); omega) (by show (1 : Int) ≤ (x4).toInt; omega) (by show (x4).toInt ≤ (3000 : Int); omega) (by show (x4).toInt * 2 < _; omega)
          · intro c11
            have k12 := z_nlt c11
            refine ⟨?_, ?_⟩
            · exact vpi (by omega) (by omega)
            · refine ⟨?_, ?_⟩
              · have t13 := ti_subc (x := x4) (y := (1 : Int32)) (c := 1) rfl (by omega)
                exact vpi (by omega) (by omega)
              · have w14 : WT (uL m 150 ((x4 - (1 : Int32)).toNatClampNeg) ((m.1 164 x3.toNatClampNeg).toInt64)) := w.l
                have f14 : Fx (RS [9]) m0 (uL m 150 ((x4 - (1 : Int32)).toNatClampNeg) ((m.1 164 x3.toNatClampNeg).toInt64)) := f.l rfl
                exact ih.2 _ _ _ w14 f14 (by show (0 : Int) ≤ (x3).toInt; omega) (by show (x3).toInt ≤ (2999 : Int); omega) (by show (1 : Int) ≤ (x4).toInt; omega) (by show (x4).toInt ≤ (3000 : Int); omega) (by show (x4).toInt * 2 < _; omega)
    · intro m x3 x4 w f j1 j2 j3 j4 hn
      refine g_X6_fillWay_39 ly_150 ?_
      refine ⟨?_, ?_⟩
      · exact vpi (by omega) (by omega)
      · have r1 := w.at (a := 163) (k := x3.toNatClampNeg) rfl
        have t2 := ti_addc (x := x4) (y := (-1 : Int32)) (c := -1) rfl (by omega)
        exact ih.1 _ _ _ w f (by show (-1 : Int) ≤ ((m.1 163 x3.toNatClampNeg)).toInt; omega) (by show ((m.1 163 x3.toNatClampNeg)).toInt ≤ (2999 : Int); omega) (by show (0 : Int) ≤ ((x4 + (-1 : Int32))).toInt; omega) (by show ((x4 + (-1 : Int32))).toInt ≤ (3000 : Int); omega) (by show ((x4 + (-1 : Int32))).toInt * 2 + 1 < _; omega)
set_option maxHeartbeats 4000000 in
theorem s_X6_fillWay {ad : Nat → Nat} {d : Nat} {m : Wm} {x1 : Int32} (w : WT m) (i1 : (0 : Int) ≤ x1.toInt) (i2 : x1.toInt ≤ (2999 : Int)) : Ct ad μX6_fillWay d [.ref (ad 156), .int x1, .ref (ad 150)] m (fun r m' => WT m' ∧ Fx (RS [9]) m m' ∧ r = none) := by
  have f : Fx (RS [9]) m m := Fx.rf
  refine v_X6_fillWay ly_150 ?_
  refine ⟨?_, ?_⟩
  · exact vpi (by omega) (by omega)
  · have r1 := w.at (a := 165) (k := x1.toNatClampNeg) rfl
    have t2 := tn (x := x1) (by omega)
    exact (l_X6_fillWay (m0 := m) 1000000).1 _ _ _ w f (by show (-1 : Int) ≤ (x1).toInt; omega) (by show (x1).toInt ≤ (2999 : Int); omega) (by show (0 : Int) ≤ ((m.1 165 x1.toNatClampNeg)).toInt; omega) (by show ((m.1 165 x1.toNatClampNeg)).toInt ≤ (3000 : Int); omega) (by show ((m.1 165 x1.toNatClampNeg)).toInt * 2 + 1 < _; omega)
set_option maxHeartbeats 4000000 in
theorem l_X6_firstStrong {ad : Nat → Nat} {d : Nat} {m0 : Wm}  : ∀ n : Nat, (∀ (m : Wm) (x2 x3 : Int32), WT m → Fx (RS [11, 14]) m0 m → (0 : Int) ≤ x3.toInt → x3.toInt ≤ (3000 : Int) → (3000 - x3.toInt) * 20 + 15 < (n : Int) → AW ad E0 μX6_firstStrong (d + 5) (fun r m' => WT m' ∧ Fx (RS [11, 14]) m0 m' ∧ ∃ v : Int32, r = some (.int v) ∧ (-1 : Int) ≤ v.toInt ∧ v.toInt ≤ 2999) 2 [(0, .ref (ad 156)), (1, .ref (ad 3)), (2, .int x2), (3, .int x3)] [] m) ∧ (∀ (m : Wm) (x2 x3 x4 x5 : Int32), WT m → Fx (RS [11, 14]) m0 m → (0 : Int) ≤ x3.toInt → x3.toInt ≤ (2999 : Int) → (0 : Int) ≤ x5.toInt → x5.toInt ≤ (8 : Int) → (3000 - x3.toInt) * 20 + 8 - x5.toInt < (n : Int) → AW ad E0 μX6_firstStrong (d + 5) (fun r m' => WT m' ∧ Fx (RS [11, 14]) m0 m' ∧ ∃ v : Int32, r = some (.int v) ∧ (-1 : Int) ≤ v.toInt ∧ v.toInt ≤ 2999) 25 [(0, .ref (ad 156)), (1, .ref (ad 3)), (2, .int x2), (3, .int x3), (4, .int x4), (5, .int x5)] [] m) := by
  intro n
  induction n with
  | zero =>
    refine ⟨?_, ?_⟩ <;> intros <;> exfalso <;> omega
  | succ n ih =>
    refine ⟨?_, ?_⟩
    · intro m x2 x3 w f j1 j2 hn
      refine g_X6_firstStrong_2  ?_
      refine ⟨?_, ?_⟩
      · intro c1
        have r2 := w.at (a := 151) (k := 4) rfl
        have k3 := z_le c1
        exact ⟨w, f, _, rfl, (by show (-1 : Int) ≤ (-1 : Int); omega), (by show (-1 : Int) ≤ (2999 : Int); omega)⟩
      · intro c4
        have r5 := w.at (a := 151) (k := 4) rfl
        have k6 := z_nle c4
        refine (s_X6_unpackAll w (by show (0 : Int) ≤ (x3).toInt; omega) (by show (x3).toInt ≤ (2999 : Int); omega)).to ?_
        rintro _ m1 ⟨w_m1, g7, rfl⟩
        have f_m1 : Fx (RS [11, 14]) m0 m1 := f.tr g7 (RS_sub rfl)
        refine ⟨rfl, ?_⟩
        exact ih.2 _ _ _ _ _ w_m1 f_m1 (by show (0 : Int) ≤ (x3).toInt; omega) (by show (x3).toInt ≤ (2999 : Int); omega) (by show (0 : Int) ≤ (0 : Int); omega) (by show (0 : Int) ≤ (8 : Int); omega) (by show (3000 - (x3).toInt) * 20 + 8 - (0 : Int) < _; omega)
    · intro m x2 x3 x4 x5 w f j1 j2 j3 j4 hn
      refine g_X6_firstStrong_25  ?_
      refine ⟨?_, ?_⟩
      · intro c1
        have r2 := w.at (a := 3) (k := 3) rfl
        have k3 := z_le c1
        refine ⟨?_, ?_⟩
        · intro c4
          have k5 := y_eqr (n := 0) rfl c4
          have t6 := ti_addc (x := x3) (y := (1 : Int32)) (c := 1) rfl (by omega)
          exact ih.1 _ _ _ w f (by show (0 : Int) ≤ ((x3 + (1 : Int32))).toInt; omega) (by show ((x3 + (1 : Int32))).toInt ≤ (3000 : Int); omega) (by show (3000 - ((x3 + (1 : Int32))).toInt) * 20 + 15 < _; omega)
        · intro c7
          have k8 := y_ner (n := 0) rfl c7
          exact ⟨w, f, _, rfl, (by show (-1 : Int) ≤ (x3).toInt; omega), (by show (x3).toInt ≤ (2999 : Int); omega)⟩
      · intro c9
        have r10 := w.at (a := 3) (k := 3) rfl
        have k11 := z_nle c9
        refine ⟨?_, ?_⟩
        · intro c12
          have k13 := y_eqr (n := 0) rfl c12
          refine ⟨?_, ?_⟩
          · intro c14
            have k15 := y_eqr (n := 0) rfl c14
            have t16 := ti_addc (x := x3) (y := (1 : Int32)) (c := 1) rfl (by omega)
            exact ih.1 _ _ _ w f (by show (0 : Int) ≤ ((x3 + (1 : Int32))).toInt; omega) (by show ((x3 + (1 : Int32))).toInt ≤ (3000 : Int); omega) (by show (3000 - ((x3 + (1 : Int32))).toInt) * 20 + 15 < _; omega)
          · intro c17
            have k18 := y_ner (n := 0) rfl c17
            exact ⟨w, f, _, rfl, (by show (-1 : Int) ≤ (x3).toInt; omega), (by show (x3).toInt ≤ (2999 : Int); omega)⟩
        · intro c19
          have k20 := y_ner (n := 0) rfl c19
          refine (s_X1_power w SS_157 (by show (0 : Int) ≤ (x5).toInt; omega) (by show (x5).toInt ≤ (7 : Int); omega)).to ?_
          rintro _ m1 ⟨w_m1, g21, v2, rfl⟩
          have f_m1 : Fx (RS [11, 14]) m0 m1 := f.tr g21 (RS_sub rfl)
          refine ⟨v2, rfl, ?_⟩
          refine ⟨?_, ?_⟩
          · intro c22
            have k23 := z_lt c22
            have t24 := ti_addc (x := x5) (y := (1 : Int32)) (c := 1) rfl (by omega)
            exact ih.2 _ _ _ _ _ w_m1 f_m1 (by show (0 : Int) ≤ (x3).toInt; omega) (by show (x3).toInt ≤ (2999 : Int); omega) (by show (0 : Int) ≤ ((x5 + (1 : Int32))).toInt; omega) (by show ((x5 + (1 : Int32))).toInt ≤ (8 : Int); omega) (by show (3000 - (x3).toInt) * 20 + 8 - ((x5 + (1 : Int32))).toInt < _; omega)
          · intro c25
            have k26 := z_nlt c25
            have t27 := ti_addc (x := x5) (y := (1 : Int32)) (c := 1) rfl (by omega)
            exact ih.2 _ _ _ _ _ w_m1 f_m1 (by show (0 : Int) ≤ (x3).toInt; omega) (by show (x3).toInt ≤ (2999 : Int); omega) (by show (0 : Int) ≤ ((x5 + (1 : Int32))).toInt; omega) (by show ((x5 + (1 : Int32))).toInt ≤ (8 : Int); omega) (by show (3000 - (x3).toInt) * 20 + 8 - ((x5 + (1 : Int32))).toInt < _; omega)
set_option maxHeartbeats 4000000 in
theorem s_X6_firstStrong {ad : Nat → Nat} {d : Nat} {m : Wm} {x2 : Int32} (w : WT m) : Ct ad μX6_firstStrong (d + 5) [.ref (ad 156), .ref (ad 3), .int x2] m (fun r m' => WT m' ∧ Fx (RS [11, 14]) m m' ∧ ∃ v : Int32, r = some (.int v) ∧ (-1 : Int) ≤ v.toInt ∧ v.toInt ≤ 2999) := by
  have f : Fx (RS [11, 14]) m m := Fx.rf
  refine v_X6_firstStrong  ?_
  exact (l_X6_firstStrong (m0 := m) 1000000).1 _ _ _ w f (by show (0 : Int) ≤ (0 : Int); omega) (by show (0 : Int) ≤ (3000 : Int); omega) (by show (3000 - (0 : Int)) * 20 + 15 < _; omega)
set_option maxHeartbeats 4000000 in
theorem l_X6_greatestPower {ad : Nat → Nat} {d : Nat} {m0 : Wm}  : ∀ n : Nat, (∀ (m : Wm) (x2 x3 x4 : Int32), WT m → Fx (RS [11, 14]) m0 m → (0 : Int) ≤ x2.toInt → x2.toInt ≤ (7 : Int) → (0 : Int) ≤ x4.toInt → x4.toInt ≤ (3000 : Int) → (3000 - x4.toInt) * 2 + 1 < (n : Int) → AW ad E0 μX6_greatestPower (d + 5) (fun r m' => WT m' ∧ Fx (RS [11, 14]) m0 m' ∧ ∃ v : Int32, r = some (.int v)) 5 [(0, .ref (ad 156)), (1, .ref (ad 3)), (2, .int x2), (3, .int x3), (4, .int x4)] [] m) ∧ (∀ (m : Wm) (x2 x4 x5 : Int32), WT m → Fx (RS [11, 14]) m0 m → (0 : Int) ≤ x2.toInt → x2.toInt ≤ (7 : Int) → (0 : Int) ≤ x4.toInt → x4.toInt ≤ (2999 : Int) → (3000 - x4.toInt) * 2 < (n : Int) → AW ad E0 μX6_greatestPower (d + 5) (fun r m' => WT m' ∧ Fx (RS [11, 14]) m0 m' ∧ ∃ v : Int32, r = some (.int v)) 46 [(0, .ref (ad 156)), (1, .ref (ad 3)), (2, .int x2), (4, .int x4), (5, .int x5)] [] m) := by
  intro n
  induction n with
  | zero =>
    refine ⟨?_, ?_⟩ <;> intros <;> exfalso <;> omega
  | succ n ih =>
    refine ⟨?_, ?_⟩
    · intro m x2 x3 x4 w f j1 j2 j3 j4 hn
      refine g_X6_greatestPower_5  ?_
      refine ⟨?_, ?_⟩
      · intro c1
        have r2 := w.at (a := 151) (k := 4) rfl
        have k3 := z_le c1
        exact ⟨w, f, _, rfl⟩
      · intro c4
        have r5 := w.at (a := 151) (k := 4) rfl
        have k6 := z_nle c4
        refine (s_X6_unpackAll w (by show (0 : Int) ≤ (x4).toInt; omega) (by show (x4).toInt ≤ (2999 : Int); omega)).to ?_
        rintro _ m1 ⟨w_m1, g7, rfl⟩
        have f_m1 : Fx (RS [11, 14]) m0 m1 := f.tr g7 (RS_sub rfl)
        refine ⟨rfl, ?_⟩
        refine (s_X1_power w_m1 SS_157 (by show (0 : Int) ≤ (x2).toInt; omega) (by show (x2).toInt ≤ (7 : Int); omega)).to ?_
        rintro _ m2 ⟨w_m2, g8, v3, rfl⟩
        have f_m2 : Fx (RS [11, 14]) m0 m2 := f_m1.tr g8 (RS_sub rfl)
        refine ⟨v3, rfl, ?_⟩
        refine ⟨?_, ?_⟩
        · intro c9
          have k10 := y_eqr (n := 0) rfl c9
          exact ih.2 _ _ _ _ w_m2 f_m2 (by show (0 : Int) ≤ (x2).toInt; omega) (by show (x2).toInt ≤ (7 : Int); omega) (by show (0 : Int) ≤ (x4).toInt; omega) (by show (x4).toInt ≤ (2999 : Int); omega) (by show (3000 - (x4).toInt) * 2 < _; omega)
        · intro c11
          have k12 := y_ner (n := 0) rfl c11
          refine ⟨?_, ?_⟩
          · intro c13
            have k14 := z_le c13
            have t15 := ti_addc (x := x4) (y := (1 : Int32)) (c := 1) rfl (by omega)
            exact ih.1 _ _ _ _ w_m2 f_m2 (by show (0 : Int) ≤ (x2).toInt; omega) (by show (x2).toInt ≤ (7 : Int); omega) (by show (0 : Int) ≤ ((x4 + (1 : Int32))).toInt; omega) (by show ((x4 + (1 : Int32))).toInt ≤ (3000 : Int); omega) (by show (3000 - ((x4 + (1 : Int32))).toInt) * 2 + 1 < _; omega)
          · intro c16
            have k17 := z_nle c16
            exact ih.2 _ _ _ _ w_m2 f_m2 (by show (0 : Int) ≤ (x2).toInt; omega) (by show (x2).toInt ≤ (7 : Int); omega) (by show (0 : Int) ≤ (x4).toInt; omega) (by show (x4).toInt ≤ (2999 : Int); omega) (by show (3000 - (x4).toInt) * 2 < _; omega)
    · intro m x2 x4 x5 w f j1 j2 j3 j4 hn
      refine g_X6_greatestPower_46  ?_
      have w1 : WT (uI m 156 6 x4) := w.t rfl (by show (0 : Int) ≤ (x4).toInt; omega) (by show (x4).toInt ≤ 2999; omega)
      have f1 : Fx (RS [11, 14]) m0 (uI m 156 6 x4) := f.i rfl
      have t2 := ti_addc (x := x4) (y := (1 : Int32)) (c := 1) rfl (by omega)
      exact ih.1 _ _ _ _ w1 f1 (by show (0 : Int) ≤ (x2).toInt; omega) (by show (x2).toInt ≤ (7 : Int); omega) (by show (0 : Int) ≤ ((x4 + (1 : Int32))).toInt; omega) (by show ((x4 + (1 : Int32))).toInt ≤ (3000 : Int); omega) (by show (3000 - ((x4 + (1 : Int32))).toInt) * 2 + 1 < _; omega)
set_option maxHeartbeats 4000000 in
theorem s_X6_greatestPower {ad : Nat → Nat} {d : Nat} {m : Wm} {x2 : Int32} (w : WT m) (i1 : (0 : Int) ≤ x2.toInt) (i2 : x2.toInt ≤ (7 : Int)) : Ct ad μX6_greatestPower (d + 5) [.ref (ad 156), .ref (ad 3), .int x2] m (fun r m' => WT m' ∧ Fx (RS [11, 14]) m m' ∧ ∃ v : Int32, r = some (.int v)) := by
  have f : Fx (RS [11, 14]) m m := Fx.rf
  refine v_X6_greatestPower  ?_
  exact (l_X6_greatestPower (m0 := m) 1000000).1 _ _ _ _ w f (by show (0 : Int) ≤ (x2).toInt; omega) (by show (x2).toInt ≤ (7 : Int); omega) (by show (0 : Int) ≤ (0 : Int); omega) (by show (0 : Int) ≤ (3000 : Int); omega) (by show (3000 - (0 : Int)) * 2 + 1 < _; omega)
set_option maxHeartbeats 4000000 in
theorem l_X6_leastGap {ad : Nat → Nat} {d : Nat} {m0 : Wm}  : ∀ n : Nat, (∀ (m : Wm) (x2 x3 : Int32), WT m → Fx (RS [11, 14]) m0 m → (0 : Int) ≤ x3.toInt → x3.toInt ≤ (3000 : Int) → (3000 - x3.toInt) * 2 + 1 < (n : Int) → AW ad E0 μX6_leastGap (d + 6) (fun r m' => WT m' ∧ Fx (RS [11, 14]) m0 m' ∧ ∃ v : Int32, r = some (.int v)) 4 [(0, .ref (ad 156)), (1, .ref (ad 3)), (2, .int x2), (3, .int x3)] [] m) ∧ (∀ (m : Wm) (x3 x4 : Int32), WT m → Fx (RS [11, 14]) m0 m → (0 : Int) ≤ x3.toInt → x3.toInt ≤ (2999 : Int) → (3000 - x3.toInt) * 2 < (n : Int) → AW ad E0 μX6_leastGap (d + 6) (fun r m' => WT m' ∧ Fx (RS [11, 14]) m0 m' ∧ ∃ v : Int32, r = some (.int v)) 66 [(0, .ref (ad 156)), (1, .ref (ad 3)), (3, .int x3), (4, .int x4)] [] m) := by
  intro n
  induction n with
  | zero =>
    refine ⟨?_, ?_⟩ <;> intros <;> exfalso <;> omega
  | succ n ih =>
    refine ⟨?_, ?_⟩
    · intro m x2 x3 w f j1 j2 hn
      refine g_X6_leastGap_4  ?_
      refine ⟨?_, ?_⟩
      · intro c1
        have r2 := w.at (a := 151) (k := 4) rfl
        have k3 := z_le c1
        exact ⟨w, f, _, rfl⟩
      · intro c4
        have r5 := w.at (a := 151) (k := 4) rfl
        have k6 := z_nle c4
        refine (s_X6_unpackAll w (by show (0 : Int) ≤ (x3).toInt; omega) (by show (x3).toInt ≤ (2999 : Int); omega)).to ?_
        rintro _ m1 ⟨w_m1, g7, rfl⟩
        have f_m1 : Fx (RS [11, 14]) m0 m1 := f.tr g7 (RS_sub rfl)
        refine ⟨rfl, ?_⟩
        refine (s_X1_strongest w_m1 SS_157).to ?_
        rintro _ m2 ⟨w_m2, g8, v3, rfl, p9, p10⟩
        have f_m2 : Fx (RS [11, 14]) m0 m2 := f_m1.tr g8 (RS_sub rfl)
        refine ⟨v3, rfl, ?_⟩
        refine (s_X1_power w_m2 SS_157 (by show (0 : Int) ≤ (v3).toInt; omega) (by show (v3).toInt ≤ (7 : Int); omega)).to ?_
        rintro _ m4 ⟨w_m4, g11, v5, rfl⟩
        have f_m4 : Fx (RS [11, 14]) m0 m4 := f_m2.tr g11 (RS_sub rfl)
        refine ⟨v5, rfl, ?_⟩
        refine (s_X1_weakest w_m4 SS_157).to ?_
        rintro _ m6 ⟨w_m6, g12, v7, rfl, p13, p14⟩
        have f_m6 : Fx (RS [11, 14]) m0 m6 := f_m4.tr g12 (RS_sub rfl)
        refine ⟨v7, rfl, ?_⟩
        refine (s_X1_power w_m6 SS_157 (by show (0 : Int) ≤ (v7).toInt; omega) (by show (v7).toInt ≤ (7 : Int); omega)).to ?_
        rintro _ m8 ⟨w_m8, g15, v9, rfl⟩
        have f_m8 : Fx (RS [11, 14]) m0 m8 := f_m6.tr g15 (RS_sub rfl)
        refine ⟨v9, rfl, ?_⟩
        refine ⟨?_, ?_⟩
        · intro c16
          have k17 := y_eqr (n := 0) rfl c16
          exact ih.2 _ _ _ w_m8 f_m8 (by show (0 : Int) ≤ (x3).toInt; omega) (by show (x3).toInt ≤ (2999 : Int); omega) (by show (3000 - (x3).toInt) * 2 < _; omega)
        · intro c18
          have k19 := y_ner (n := 0) rfl c18
          refine ⟨?_, ?_⟩
          · intro c20
            have k21 := z_le c20
            have t22 := ti_addc (x := x3) (y := (1 : Int32)) (c := 1) rfl (by omega)
            exact ih.1 _ _ _ w_m8 f_m8 (by show (0 : Int) ≤ ((x3 + (1 : Int32))).toInt; omega) (by show ((x3 + (1 : Int32))).toInt ≤ (3000 : Int); omega) (by show (3000 - ((x3 + (1 : Int32))).toInt) * 2 + 1 < _; omega)
          · intro c23
            have k24 := z_nle c23
            exact ih.2 _ _ _ w_m8 f_m8 (by show (0 : Int) ≤ (x3).toInt; omega) (by show (x3).toInt ≤ (2999 : Int); omega) (by show (3000 - (x3).toInt) * 2 < _; omega)
    · intro m x3 x4 w f j1 j2 hn
      refine g_X6_leastGap_66  ?_
      have w1 : WT (uI m 156 6 x3) := w.t rfl (by show (0 : Int) ≤ (x3).toInt; omega) (by show (x3).toInt ≤ 2999; omega)
      have f1 : Fx (RS [11, 14]) m0 (uI m 156 6 x3) := f.i rfl
      have t2 := ti_addc (x := x3) (y := (1 : Int32)) (c := 1) rfl (by omega)
      exact ih.1 _ _ _ w1 f1 (by show (0 : Int) ≤ ((x3 + (1 : Int32))).toInt; omega) (by show ((x3 + (1 : Int32))).toInt ≤ (3000 : Int); omega) (by show (3000 - ((x3 + (1 : Int32))).toInt) * 2 + 1 < _; omega)
set_option maxHeartbeats 4000000 in
theorem s_X6_leastGap {ad : Nat → Nat} {d : Nat} {m : Wm} (w : WT m) : Ct ad μX6_leastGap (d + 6) [.ref (ad 156), .ref (ad 3)] m (fun r m' => WT m' ∧ Fx (RS [11, 14]) m m' ∧ ∃ v : Int32, r = some (.int v)) := by
  have f : Fx (RS [11, 14]) m m := Fx.rf
  refine v_X6_leastGap  ?_
  exact (l_X6_leastGap (m0 := m) 1000000).1 _ _ _ w f (by show (0 : Int) ≤ (0 : Int); omega) (by show (0 : Int) ≤ (3000 : Int); omega) (by show (3000 - (0 : Int)) * 2 + 1 < _; omega)
set_option maxHeartbeats 4000000 in
theorem l_X7_playTurn {ad : Nat → Nat} {d : Nat} {m0 : Wm} {b2 : Nat} (hb2 : b2 = 134 ∨ b2 = 140) : ∀ n : Nat, (∀ (m : Wm) (x3 : Int32), WT m → Fx (RS [2, 12, 14]) m0 m → (0 : Int) ≤ x3.toInt → x3.toInt ≤ (48 : Int) → 48 - x3.toInt < (n : Int) → AW ad E0 μX7_playTurn (d + 5) (fun r m' => WT m' ∧ Fx (RS [2, 12, 14]) m0 m' ∧ r = none) 2 [(0, .ref (ad 166)), (1, .ref (ad 3)), (2, .ref (ad b2)), (3, .int x3)] [] m) := by
  intro n
  induction n with
  | zero =>
    intros
    exfalso
    omega
  | succ n ih =>
    intro m x3 w f j1 j2 hn
    refine g_X7_playTurn_2 (Pl_of hb2) ?_
    refine ⟨?_, ?_⟩
    · intro c1
      have r2 := w.pl (k := 6) hb2 rfl rfl
      have k3 := z_le c1
      exact ⟨w, f, rfl⟩
    · intro c4
      have r5 := w.pl (k := 6) hb2 rfl rfl
      have k6 := z_nle c4
      refine ⟨?_, ?_⟩
      · exact vpi (by omega) (by omega)
      · refine ⟨?_, ?_⟩
        · exact vpi (by omega) (by omega)
        · refine ⟨?_, ?_⟩
          · exact vpi (by omega) (by omega)
          · have r7 := w.plj (j := 1) (k := x3.toNatClampNeg) hb2 rfl rfl
            have r8 := w.plj (j := 2) (k := x3.toNatClampNeg) hb2 rfl rfl
            refine (s_X1_result w SS_167 (by show (0 : Int) ≤ ((m.1 (b2 + 1) x3.toNatClampNeg)).toInt; omega) (by show ((m.1 (b2 + 1) x3.toNatClampNeg)).toInt ≤ (7 : Int); omega) (by show (0 : Int) ≤ ((m.1 (b2 + 2) x3.toNatClampNeg)).toInt; omega) (by show ((m.1 (b2 + 2) x3.toNatClampNeg)).toInt ≤ (7 : Int); omega)).to ?_
            rintro _ m1 ⟨w_m1, g9, v2, rfl, p10, p11⟩
            have f_m1 : Fx (RS [2, 12, 14]) m0 m1 := f.tr g9 (RS_sub rfl)
            refine ⟨v2, rfl, ?_⟩
            refine ⟨?_, ?_⟩
            · exact vpi (by omega) (by omega)
            · refine ⟨?_, ?_⟩
              · exact vpi (by omega) (by omega)
              · have r12 := w_m1.plj (j := 1) (k := x3.toNatClampNeg) hb2 rfl rfl
                have r13 := w_m1.plj (j := 2) (k := x3.toNatClampNeg) hb2 rfl rfl
                refine (s_X1_settle w_m1 SS_167 (by show (0 : Int) ≤ ((m1.1 (b2 + 1) x3.toNatClampNeg)).toInt; omega) (by show ((m1.1 (b2 + 1) x3.toNatClampNeg)).toInt ≤ (7 : Int); omega) (by show (0 : Int) ≤ ((m1.1 (b2 + 2) x3.toNatClampNeg)).toInt; omega) (by show ((m1.1 (b2 + 2) x3.toNatClampNeg)).toInt ≤ (7 : Int); omega)).to ?_
                rintro _ m3 ⟨w_m3, g14, rfl⟩
                have f_m3 : Fx (RS [2, 12, 14]) m0 m3 := f_m1.tr g14 (RS_sub rfl)
                refine ⟨rfl, ?_⟩
                have t15 := ti_addc (x := x3) (y := (1 : Int32)) (c := 1) rfl (by omega)
                exact ih _ _ w_m3 f_m3 (by show (0 : Int) ≤ ((x3 + (1 : Int32))).toInt; omega) (by show ((x3 + (1 : Int32))).toInt ≤ (48 : Int); omega) (by show 48 - ((x3 + (1 : Int32))).toInt < _; omega)
set_option maxHeartbeats 4000000 in
theorem s_X7_playTurn {ad : Nat → Nat} {d : Nat} {m : Wm} {b2 : Nat} (w : WT m) (hb2 : b2 = 134 ∨ b2 = 140) : Ct ad μX7_playTurn (d + 5) [.ref (ad 166), .ref (ad 3), .ref (ad b2)] m (fun r m' => WT m' ∧ Fx (RS [2, 12, 14]) m m' ∧ r = none) := by
  have f : Fx (RS [2, 12, 14]) m m := Fx.rf
  refine v_X7_playTurn (Pl_of hb2) ?_
  exact (l_X7_playTurn (m0 := m) hb2 1000000) _ _ w f (by show (0 : Int) ≤ (0 : Int); omega) (by show (0 : Int) ≤ (48 : Int); omega) (by show 48 - (0 : Int) < _; omega)
set_option maxHeartbeats 4000000 in
theorem l_X7_findLoop {ad : Nat → Nat} {d : Nat} {m0 : Wm} {b2 : Nat} (hb2 : b2 = 134 ∨ b2 = 140) : ∀ n : Nat, (∀ (m : Wm) (x4 : Int32), WT m → Fx (RS [2, 10, 12, 14]) m0 m → (1 : Int) ≤ x4.toInt → x4.toInt ≤ (2001 : Int) → ((m.1 151 4).toInt ≤ x4.toInt) → 2001 - x4.toInt < (n : Int) → AW ad E0 μX7_findLoop (d + 6) (fun r m' => WT m' ∧ Fx (RS [2, 10, 12, 14]) m0 m' ∧ ∃ v : Int32, r = some (.int v) ∧ (0 : Int) ≤ v.toInt ∧ v.toInt ≤ 1) 30 [(0, .ref (ad 166)), (1, .ref (ad 3)), (2, .ref (ad b2)), (4, .int x4)] [] m) := by
  intro n
  induction n with
  | zero =>
    intros
    exfalso
    omega
  | succ n ih =>
    intro m x4 w f j1 j2 j3 hn
    refine g_X7_findLoop_30 (Pl_of hb2) ?_
    refine ⟨?_, ?_⟩
    · intro c1
      have k2 := y_ltl (n := 2000) rfl c1
      exact ⟨w, f, _, rfl, (by show (0 : Int) ≤ (0 : Int); omega), (by show (0 : Int) ≤ (1 : Int); omega)⟩
    · intro c3
      have k4 := y_nltl (n := 2000) rfl c3
      refine (s_X7_playTurn w hb2).to ?_
      rintro _ m1 ⟨w_m1, g5, rfl⟩
      have f_m1 : Fx (RS [2, 10, 12, 14]) m0 m1 := f.tr g5 (RS_sub rfl)
      have e6 : (m1.1 151 4).toInt = ((m.1 151 4)).toInt := congrArg _ (g5.at (a := 151) (k := 4) (by decide))
      refine ⟨rfl, ?_⟩
      refine (s_X9_putSkillsOf w_m1 SS_167).to ?_
      rintro _ m2 ⟨w_m2, g7, v3, rfl, p12, p13, p8, p9, p10, p11⟩
      have f_m2 : Fx (RS [2, 10, 12, 14]) m0 m2 := f_m1.tr g7 (RS_sub rfl)
      have p14 : ((m1.1 151 4)).toInt ≤ (m2.1 151 4).toInt := p8
      clear p8
      have p15 : (m2.1 151 4).toInt ≤ ((m1.1 151 4)).toInt + 1 := p9
      clear p9
      have p16 : (m2.1 151 5).toInt = 0 ∨ v3.toInt = ((m1.1 151 4)).toInt := p10
      clear p10
      have p17 : 3000 ≤ ((m1.1 151 4)).toInt ∨ 0 ≤ v3.toInt := p11
      clear p11
      refine ⟨v3, rfl, ?_⟩
      refine ⟨?_, ?_⟩
      · intro c18
        have k19 := y_ner (n := 0) rfl c18
        have t20 := ti_addc (x := x4) (y := (1 : Int32)) (c := 1) rfl (by omega)
        have r21 := w_m2.at (a := 151) (k := 4) rfl
        exact ih _ _ w_m2 f_m2 (by show (1 : Int) ≤ ((x4 + (1 : Int32))).toInt; omega) (by show ((x4 + (1 : Int32))).toInt ≤ (2001 : Int); omega) (by show ((m2.1 151 4)).toInt ≤ ((x4 + (1 : Int32))).toInt; omega) (by show 2001 - ((x4 + (1 : Int32))).toInt < _; omega)
      · intro c22
        have k23 := y_eqr (n := 0) rfl c22
        have w24 : WT (uI m2 166 3 v3) := w_m2.t rfl (by show (0 : Int) ≤ (v3).toInt; omega) (by show (v3).toInt ≤ 2999; omega)
        have f24 : Fx (RS [2, 10, 12, 14]) m0 (uI m2 166 3 v3) := f_m2.i rfl
        have w25 : WT (uI (uI m2 166 3 v3) 166 4 (x4 - v3)) := w24.n rfl
        have f25 : Fx (RS [2, 10, 12, 14]) m0 (uI (uI m2 166 3 v3) 166 4 (x4 - v3)) := f24.i rfl
        exact ⟨w25, f25, _, rfl, (by show (0 : Int) ≤ (1 : Int); omega), (by show (1 : Int) ≤ (1 : Int); omega)⟩
set_option maxHeartbeats 4000000 in
theorem s_X7_findLoop {ad : Nat → Nat} {d : Nat} {m : Wm} {b2 : Nat} (w : WT m) (hb2 : b2 = 134 ∨ b2 = 140) : Ct ad μX7_findLoop (d + 6) [.ref (ad 166), .ref (ad 3), .ref (ad b2), .ref (ad 21)] m (fun r m' => WT m' ∧ Fx (RS [2, 10, 12, 14]) m m' ∧ ∃ v : Int32, r = some (.int v) ∧ (0 : Int) ≤ v.toInt ∧ v.toInt ≤ 1) := by
  have f : Fx (RS [2, 10, 12, 14]) m m := Fx.rf
  refine v_X7_findLoop (Pl_of hb2) St_21 ?_
  refine (s_X8_copy w SS_167 SS_21).to ?_
  rintro _ m1 ⟨w_m1, g1, rfl⟩
  have f_m1 : Fx (RS [2, 10, 12, 14]) m m1 := f.tr g1 (RS_sub rfl)
  have e2 : (m1.1 151 4).toInt = ((m.1 151 4)).toInt := congrArg _ (g1.at (a := 151) (k := 4) (by decide))
  refine ⟨rfl, ?_⟩
  refine (s_X9_clear w_m1).to ?_
  rintro _ m2 ⟨w_m2, g3, rfl, p4⟩
  have f_m2 : Fx (RS [2, 10, 12, 14]) m m2 := f_m1.tr g3 (RS_sub rfl)
  have p5 : (m2.1 151 4).toInt = 0 := p4
  clear p4
  refine ⟨rfl, ?_⟩
  refine (s_X9_putSkillsOf w_m2 SS_167).to ?_
  rintro _ m3 ⟨w_m3, g6, v4, rfl, p11, p12, p7, p8, p9, p10⟩
  have f_m3 : Fx (RS [2, 10, 12, 14]) m m3 := f_m2.tr g6 (RS_sub rfl)
  have p13 : ((m2.1 151 4)).toInt ≤ (m3.1 151 4).toInt := p7
  clear p7
  have p14 : (m3.1 151 4).toInt ≤ ((m2.1 151 4)).toInt + 1 := p8
  clear p8
  have p15 : (m3.1 151 5).toInt = 0 ∨ v4.toInt = ((m2.1 151 4)).toInt := p9
  clear p9
  have p16 : 3000 ≤ ((m2.1 151 4)).toInt ∨ 0 ≤ v4.toInt := p10
  clear p10
  refine ⟨v4, rfl, ?_⟩
  have r17 := w_m3.at (a := 151) (k := 4) rfl
  exact (l_X7_findLoop (m0 := m) hb2 1000000) _ _ w_m3 f_m3 (by show (1 : Int) ≤ (1 : Int); omega) (by show (1 : Int) ≤ (2001 : Int); omega) (by show ((m3.1 151 4)).toInt ≤ (1 : Int); omega) (by show 2001 - (1 : Int) < _; omega)
set_option maxHeartbeats 4000000 in
theorem l_X7_loopSum {ad : Nat → Nat} {d : Nat} {m0 : Wm}  : ∀ n : Nat, (∀ (m : Wm) (x1 x2 x3 x4 : Int32), WT m → Fx (RS []) m0 m → (0 : Int) ≤ x4.toInt → x4.toInt ≤ (3000 : Int) → 3000 - x4.toInt < (n : Int) → AW ad E0 μX7_loopSum (d + 1) (fun r m' => WT m' ∧ Fx (RS []) m0 m' ∧ ∃ v : Int32, r = some (.int v)) 8 [(0, .ref (ad 166)), (1, .int x1), (2, .int x2), (3, .int x3), (4, .int x4)] [] m) := by
  intro n
  induction n with
  | zero =>
    intros
    exfalso
    omega
  | succ n ih =>
    intro m x1 x2 x3 x4 w f j1 j2 hn
    refine g_X7_loopSum_8  ?_
    refine ⟨?_, ?_⟩
    · intro c1
      have r2 := w.at (a := 151) (k := 4) rfl
      have k3 := z_le c1
      exact ⟨w, f, _, rfl⟩
    · intro c4
      have r5 := w.at (a := 151) (k := 4) rfl
      have k6 := z_nle c4
      refine (s_X9_skillIn w (by show (0 : Int) ≤ (x4).toInt; omega) (by show (x4).toInt ≤ (2999 : Int); omega)).to ?_
      rintro _ m1 ⟨w_m1, g7, v2, rfl, p8, p9⟩
      have f_m1 : Fx (RS []) m0 m1 := f.tr g7 (RS_sub rfl)
      refine ⟨v2, rfl, ?_⟩
      have t10 := ti_addc (x := x4) (y := (1 : Int32)) (c := 1) rfl (by omega)
      exact ih _ _ _ _ _ w_m1 f_m1 (by show (0 : Int) ≤ ((x4 + (1 : Int32))).toInt; omega) (by show ((x4 + (1 : Int32))).toInt ≤ (3000 : Int); omega) (by show 3000 - ((x4 + (1 : Int32))).toInt < _; omega)
set_option maxHeartbeats 4000000 in
theorem s_X7_loopSum {ad : Nat → Nat} {d : Nat} {m : Wm} {x1 x2 : Int32} (w : WT m) : Ct ad μX7_loopSum (d + 1) [.ref (ad 166), .int x1, .int x2] m (fun r m' => WT m' ∧ Fx (RS []) m m' ∧ ∃ v : Int32, r = some (.int v)) := by
  have f : Fx (RS []) m m := Fx.rf
  refine v_X7_loopSum  ?_
  have r1 := w.at (a := 166) (k := 3) rfl
  exact (l_X7_loopSum (m0 := m) 1000000) _ _ _ _ _ w f (by show (0 : Int) ≤ ((m.1 166 3)).toInt; omega) (by show ((m.1 166 3)).toInt ≤ (3000 : Int); omega) (by show 3000 - ((m.1 166 3)).toInt < _; omega)
set_option maxHeartbeats 4000000 in
theorem l_X7_followGame {ad : Nat → Nat} {d : Nat} {m0 : Wm} {b2 : Nat} (hb2 : b2 = 134 ∨ b2 = 140) : ∀ n : Nat, (∀ (m : Wm) (x3 x4 x5 x6 s0 : Int32), WT m → Fx (RS [2, 12, 14]) m0 m → (0 : Int) ≤ x3.toInt → x3.toInt ≤ (47 : Int) → (0 : Int) ≤ x5.toInt → x5.toInt ≤ (7 : Int) → (0 : Int) ≤ x6.toInt → x6.toInt ≤ (7 : Int) → 0 * x3.toInt + 5 < (n : Int) → AW ad E0 μX7_followGame (d + 5) (fun r m' => WT m' ∧ Fx (RS [2, 12, 14]) m0 m' ∧ r = none) 42 [(0, .ref (ad 166)), (1, .ref (ad 3)), (2, .ref (ad b2)), (3, .int x3), (4, .int x4), (5, .int x5), (6, .int x6)] [.int s0] m) ∧ (∀ (m : Wm) (x3 x4 x5 x6 : Int32) (z0 z1 : Int64), WT m → Fx (RS [2, 12, 14]) m0 m → (0 : Int) ≤ x3.toInt → x3.toInt ≤ (47 : Int) → (0 : Int) ≤ x5.toInt → x5.toInt ≤ (7 : Int) → (0 : Int) ≤ x6.toInt → x6.toInt ≤ (7 : Int) → 0 * x3.toInt + 4 < (n : Int) → AW ad E0 μX7_followGame (d + 5) (fun r m' => WT m' ∧ Fx (RS [2, 12, 14]) m0 m' ∧ r = none) 66 [(0, .ref (ad 166)), (1, .ref (ad 3)), (2, .ref (ad b2)), (3, .int x3), (4, .int x4), (5, .int x5), (6, .int x6)] [.long z0, .long z1, .ref (ad 166)] m) ∧ (∀ (m : Wm) (x3 x5 x6 s0 : Int32), WT m → Fx (RS [2, 12, 14]) m0 m → (0 : Int) ≤ x3.toInt → x3.toInt ≤ (47 : Int) → (0 : Int) ≤ x5.toInt → x5.toInt ≤ (7 : Int) → (0 : Int) ≤ x6.toInt → x6.toInt ≤ (7 : Int) → 0 * x3.toInt + 3 < (n : Int) → AW ad E0 μX7_followGame (d + 5) (fun r m' => WT m' ∧ Fx (RS [2, 12, 14]) m0 m' ∧ r = none) 80 [(0, .ref (ad 166)), (1, .ref (ad 3)), (2, .ref (ad b2)), (3, .int x3), (5, .int x5), (6, .int x6)] [.int s0] m) ∧ (∀ (m : Wm) (x5 x6 x8 : Int32), WT m → Fx (RS [2, 12, 14]) m0 m → (0 : Int) ≤ x5.toInt → x5.toInt ≤ (7 : Int) → (0 : Int) ≤ x6.toInt → x6.toInt ≤ (7 : Int) → 0 * x5.toInt + 2 < (n : Int) → AW ad E0 μX7_followGame (d + 5) (fun r m' => WT m' ∧ Fx (RS [2, 12, 14]) m0 m' ∧ r = none) 111 [(0, .ref (ad 166)), (1, .ref (ad 3)), (5, .int x5), (6, .int x6), (8, .int x8)] [] m) ∧ (∀ (m : Wm) (x5 x6 x8 : Int32), WT m → Fx (RS [2, 12, 14]) m0 m → (0 : Int) ≤ x5.toInt → x5.toInt ≤ (7 : Int) → (0 : Int) ≤ x6.toInt → x6.toInt ≤ (7 : Int) → 0 * x5.toInt + 1 < (n : Int) → AW ad E0 μX7_followGame (d + 5) (fun r m' => WT m' ∧ Fx (RS [2, 12, 14]) m0 m' ∧ r = none) 138 [(0, .ref (ad 166)), (1, .ref (ad 3)), (5, .int x5), (6, .int x6), (8, .int x8)] [] m) := by
  intro n
  induction n with
  | zero =>
    refine ⟨?_, ?_, ?_, ?_, ?_⟩ <;> intros <;> exfalso <;> omega
  | succ n ih =>
    refine ⟨?_, ?_, ?_, ?_, ?_⟩
    · intro m x3 x4 x5 x6 s0 w f j1 j2 j3 j4 j5 j6 hn
      refine g_X7_followGame_42 (Pl_of hb2) ?_
      refine ⟨?_, ?_⟩
      · intro c1
        have k2 := y_eqr (n := 0) rfl c1
        exact ih.2.1 _ _ _ _ _ _ _ w f (by show (0 : Int) ≤ (x3).toInt; omega) (by show (x3).toInt ≤ (47 : Int); omega) (by show (0 : Int) ≤ (x5).toInt; omega) (by show (x5).toInt ≤ (7 : Int); omega) (by show (0 : Int) ≤ (x6).toInt; omega) (by show (x6).toInt ≤ (7 : Int); omega) (by show 0 * (x3).toInt + 4 < _; omega)
      · intro c3
        have k4 := y_ner (n := 0) rfl c3
        exact ih.2.1 _ _ _ _ _ _ _ w f (by show (0 : Int) ≤ (x3).toInt; omega) (by show (x3).toInt ≤ (47 : Int); omega) (by show (0 : Int) ≤ (x5).toInt; omega) (by show (x5).toInt ≤ (7 : Int); omega) (by show (0 : Int) ≤ (x6).toInt; omega) (by show (x6).toInt ≤ (7 : Int); omega) (by show 0 * (x3).toInt + 4 < _; omega)
    · intro m x3 x4 x5 x6 z0 z1 w f j1 j2 j3 j4 j5 j6 hn
      refine g_X7_followGame_66 (Pl_of hb2) ?_
      refine ⟨?_, ?_⟩
      · intro c1
        have k2 := y_eqr (n := 0) rfl c1
        have w3 : WT (uL m 166 5 (z1 * z0)) := w.l
        have f3 : Fx (RS [2, 12, 14]) m0 (uL m 166 5 (z1 * z0)) := f.l rfl
        exact ih.2.2.1 _ _ _ _ _ w3 f3 (by show (0 : Int) ≤ (x3).toInt; omega) (by show (x3).toInt ≤ (47 : Int); omega) (by show (0 : Int) ≤ (x5).toInt; omega) (by show (x5).toInt ≤ (7 : Int); omega) (by show (0 : Int) ≤ (x6).toInt; omega) (by show (x6).toInt ≤ (7 : Int); omega) (by show 0 * (x3).toInt + 3 < _; omega)
      · intro c4
        have k5 := y_ner (n := 0) rfl c4
        have w6 : WT (uL m 166 5 (z1 * z0)) := w.l
        have f6 : Fx (RS [2, 12, 14]) m0 (uL m 166 5 (z1 * z0)) := f.l rfl
        exact ih.2.2.1 _ _ _ _ _ w6 f6 (by show (0 : Int) ≤ (x3).toInt; omega) (by show (x3).toInt ≤ (47 : Int); omega) (by show (0 : Int) ≤ (x5).toInt; omega) (by show (x5).toInt ≤ (7 : Int); omega) (by show (0 : Int) ≤ (x6).toInt; omega) (by show (x6).toInt ≤ (7 : Int); omega) (by show 0 * (x3).toInt + 3 < _; omega)
    · intro m x3 x5 x6 s0 w f j1 j2 j3 j4 j5 j6 hn
      refine g_X7_followGame_80 (Pl_of hb2) ?_
      refine ⟨?_, ?_⟩
      · exact vpi (by omega) (by omega)
      · refine ⟨?_, ?_⟩
        · intro c1
          have k2 := y_eqr (n := 0) rfl c1
          exact ih.2.2.2.1 _ _ _ _ w f (by show (0 : Int) ≤ (x5).toInt; omega) (by show (x5).toInt ≤ (7 : Int); omega) (by show (0 : Int) ≤ (x6).toInt; omega) (by show (x6).toInt ≤ (7 : Int); omega) (by show 0 * (x5).toInt + 2 < _; omega)
        · intro c3
          have k4 := y_ner (n := 0) rfl c3
          refine ⟨?_, ?_⟩
          · exact vpi (by omega) (by omega)
          · refine (s_X1_result w SS_167 (by show (0 : Int) ≤ (x5).toInt; omega) (by show (x5).toInt ≤ (7 : Int); omega) (by show (0 : Int) ≤ (x6).toInt; omega) (by show (x6).toInt ≤ (7 : Int); omega)).to ?_
            rintro _ m1 ⟨w_m1, g5, v2, rfl, p6, p7⟩
            have f_m1 : Fx (RS [2, 12, 14]) m0 m1 := f.tr g5 (RS_sub rfl)
            refine ⟨v2, rfl, ?_⟩
            exact ih.2.2.2.1 _ _ _ _ w_m1 f_m1 (by show (0 : Int) ≤ (x5).toInt; omega) (by show (x5).toInt ≤ (7 : Int); omega) (by show (0 : Int) ≤ (x6).toInt; omega) (by show (x6).toInt ≤ (7 : Int); omega) (by show 0 * (x5).toInt + 2 < _; omega)
    · intro m x5 x6 x8 w f j1 j2 j3 j4 hn
      refine g_X7_followGame_111  ?_
      refine ⟨?_, ?_⟩
      · intro c1
        have k2 := y_eqr (n := 2) rfl c1
        exact ih.2.2.2.2 _ _ _ _ w f (by show (0 : Int) ≤ (x5).toInt; omega) (by show (x5).toInt ≤ (7 : Int); omega) (by show (0 : Int) ≤ (x6).toInt; omega) (by show (x6).toInt ≤ (7 : Int); omega) (by show 0 * (x5).toInt + 1 < _; omega)
      · intro c3
        have k4 := y_ner (n := 2) rfl c3
        refine ⟨?_, ?_⟩
        · intro c5
          have k6 := y_ner (n := 0) rfl c5
          refine ⟨?_, ?_⟩
          · exact vpi (by omega) (by omega)
          · refine ⟨?_, ?_⟩
            · exact vpi (by omega) (by omega)
            · have w7 : WT (uI m 172 x6.toNatClampNeg ((m.1 172 x6.toNatClampNeg) + (1 : Int32))) := w.n rfl
              have f7 : Fx (RS [2, 12, 14]) m0 (uI m 172 x6.toNatClampNeg ((m.1 172 x6.toNatClampNeg) + (1 : Int32))) := f.i rfl
              exact ih.2.2.2.2 _ _ _ _ w7 f7 (by show (0 : Int) ≤ (x5).toInt; omega) (by show (x5).toInt ≤ (7 : Int); omega) (by show (0 : Int) ≤ (x6).toInt; omega) (by show (x6).toInt ≤ (7 : Int); omega) (by show 0 * (x5).toInt + 1 < _; omega)
        · intro c8
          have k9 := y_eqr (n := 0) rfl c8
          refine ⟨?_, ?_⟩
          · exact vpi (by omega) (by omega)
          · refine ⟨?_, ?_⟩
            · exact vpi (by omega) (by omega)
            · have w10 : WT (uI m 172 x5.toNatClampNeg ((m.1 172 x5.toNatClampNeg) + (1 : Int32))) := w.n rfl
              have f10 : Fx (RS [2, 12, 14]) m0 (uI m 172 x5.toNatClampNeg ((m.1 172 x5.toNatClampNeg) + (1 : Int32))) := f.i rfl
              exact ih.2.2.2.2 _ _ _ _ w10 f10 (by show (0 : Int) ≤ (x5).toInt; omega) (by show (x5).toInt ≤ (7 : Int); omega) (by show (0 : Int) ≤ (x6).toInt; omega) (by show (x6).toInt ≤ (7 : Int); omega) (by show 0 * (x5).toInt + 1 < _; omega)
    · intro m x5 x6 x8 w f j1 j2 j3 j4 hn
      refine g_X7_followGame_138  ?_
      refine (s_X1_settle w SS_167 (by show (0 : Int) ≤ (x5).toInt; omega) (by show (x5).toInt ≤ (7 : Int); omega) (by show (0 : Int) ≤ (x6).toInt; omega) (by show (x6).toInt ≤ (7 : Int); omega)).to ?_
      rintro _ m1 ⟨w_m1, g1, rfl⟩
      have f_m1 : Fx (RS [2, 12, 14]) m0 m1 := f.tr g1 (RS_sub rfl)
      refine ⟨rfl, ?_⟩
      exact ⟨w_m1, f_m1, rfl⟩
set_option maxHeartbeats 4000000 in
theorem s_X7_followGame {ad : Nat → Nat} {d : Nat} {m : Wm} {b2 : Nat} {x3 x4 : Int32} (w : WT m) (hb2 : b2 = 134 ∨ b2 = 140) (i1 : (0 : Int) ≤ x3.toInt) (i2 : x3.toInt ≤ (47 : Int)) : Ct ad μX7_followGame (d + 5) [.ref (ad 166), .ref (ad 3), .ref (ad b2), .int x3, .int x4] m (fun r m' => WT m' ∧ Fx (RS [2, 12, 14]) m m' ∧ r = none) := by
  have f : Fx (RS [2, 12, 14]) m m := Fx.rf
  refine v_X7_followGame (Pl_of hb2) ?_
  refine ⟨?_, ?_⟩
  · exact vpi (by omega) (by omega)
  · refine ⟨?_, ?_⟩
    · exact vpi (by omega) (by omega)
    · refine ⟨?_, ?_⟩
      · exact vpi (by omega) (by omega)
      · refine ⟨?_, ?_⟩
        · intro c1
          have k2 := y_eqr (n := 0) rfl c1
          have r3 := w.plj (j := 1) (k := x3.toNatClampNeg) hb2 rfl rfl
          have r4 := w.plj (j := 2) (k := x3.toNatClampNeg) hb2 rfl rfl
          refine (s_X1_chance w SS_167 (by show (0 : Int) ≤ ((m.1 (b2 + 1) x3.toNatClampNeg)).toInt; omega) (by show ((m.1 (b2 + 1) x3.toNatClampNeg)).toInt ≤ (7 : Int); omega) (by show (0 : Int) ≤ ((m.1 (b2 + 2) x3.toNatClampNeg)).toInt; omega) (by show ((m.1 (b2 + 2) x3.toNatClampNeg)).toInt ≤ (7 : Int); omega)).to ?_
          rintro _ m1 ⟨w_m1, g5, v2, rfl, p6, p7⟩
          have f_m1 : Fx (RS [2, 12, 14]) m m1 := f.tr g5 (RS_sub rfl)
          refine ⟨v2, rfl, ?_⟩
          exact (l_X7_followGame (m0 := m) hb2 1000000).1 _ _ _ _ _ _ w_m1 f_m1 (by show (0 : Int) ≤ (x3).toInt; omega) (by show (x3).toInt ≤ (47 : Int); omega) (by show (0 : Int) ≤ ((m.1 (b2 + 1) x3.toNatClampNeg)).toInt; omega) (by show ((m.1 (b2 + 1) x3.toNatClampNeg)).toInt ≤ (7 : Int); omega) (by show (0 : Int) ≤ ((m.1 (b2 + 2) x3.toNatClampNeg)).toInt; omega) (by show ((m.1 (b2 + 2) x3.toNatClampNeg)).toInt ≤ (7 : Int); omega) (by show 0 * (x3).toInt + 5 < _; omega)
        · intro c8
          have k9 := y_ner (n := 0) rfl c8
          have r10 := w.plj (j := 1) (k := x3.toNatClampNeg) hb2 rfl rfl
          have r11 := w.plj (j := 2) (k := x3.toNatClampNeg) hb2 rfl rfl
          exact (l_X7_followGame (m0 := m) hb2 1000000).1 _ _ _ _ _ _ w f (by show (0 : Int) ≤ (x3).toInt; omega) (by show (x3).toInt ≤ (47 : Int); omega) (by show (0 : Int) ≤ ((m.1 (b2 + 1) x3.toNatClampNeg)).toInt; omega) (by show ((m.1 (b2 + 1) x3.toNatClampNeg)).toInt ≤ (7 : Int); omega) (by show (0 : Int) ≤ ((m.1 (b2 + 2) x3.toNatClampNeg)).toInt; omega) (by show ((m.1 (b2 + 2) x3.toNatClampNeg)).toInt ≤ (7 : Int); omega) (by show 0 * (x3).toInt + 5 < _; omega)
set_option maxHeartbeats 4000000 in
theorem l_X7_follow {ad : Nat → Nat} {d : Nat} {m0 : Wm} {b2 : Nat} (hb2 : b2 = 134 ∨ b2 = 140) : ∀ n : Nat, (∀ (m : Wm) (x4 x5 x6 : Int32), WT m → Fx (RS [2, 12, 14]) m0 m → (0 : Int) ≤ x4.toInt → x4.toInt ≤ (6 : Int) → (0 : Int) ≤ x6.toInt → x6.toInt ≤ (8 : Int) → 1000 - x6.toInt < (n : Int) → AW ad E0 μX7_follow (d + 6) (fun r m' => WT m' ∧ Fx (RS [2, 12, 14]) m0 m' ∧ ∃ v : Int64, r = some (.long v)) 11 [(0, .ref (ad 166)), (1, .ref (ad 3)), (2, .ref (ad b2)), (4, .int x4), (5, .int x5), (6, .int x6)] [] m) ∧ (∀ (m : Wm) (x4 x5 x6 x7 : Int32), WT m → Fx (RS [2, 12, 14]) m0 m → (0 : Int) ≤ x4.toInt → x4.toInt ≤ (6 : Int) → (0 : Int) ≤ x6.toInt → x6.toInt ≤ (47 : Int) → (0 : Int) ≤ x7.toInt → x7.toInt ≤ (6 : Int) → (6 - x7.toInt) * 2 + 1 < (n : Int) → AW ad E0 μX7_follow (d + 6) (fun r m' => WT m' ∧ Fx (RS [2, 12, 14]) m0 m' ∧ ∃ v : Int64, r = some (.long v)) 43 [(0, .ref (ad 166)), (1, .ref (ad 3)), (2, .ref (ad b2)), (4, .int x4), (5, .int x5), (6, .int x6), (7, .int x7)] [] m) ∧ (∀ (m : Wm) (c2 : Nat) (x4 x5 x6 x7 s0 s1 : Int32), WT m → Fx (RS [2, 12, 14]) m0 m → (c2 = 134 ∨ c2 = 140) → (0 : Int) ≤ x4.toInt → x4.toInt ≤ (6 : Int) → (0 : Int) ≤ x6.toInt → x6.toInt ≤ (47 : Int) → (0 : Int) ≤ x7.toInt → x7.toInt ≤ (5 : Int) → (0 : Int) ≤ s1.toInt → s1.toInt ≤ (47 : Int) → (6 - x7.toInt) * 2 < (n : Int) → AW ad E0 μX7_follow (d + 6) (fun r m' => WT m' ∧ Fx (RS [2, 12, 14]) m0 m' ∧ ∃ v : Int64, r = some (.long v)) 79 [(0, .ref (ad 166)), (1, .ref (ad 3)), (2, .ref (ad b2)), (4, .int x4), (5, .int x5), (6, .int x6), (7, .int x7)] [.int s0, .int s1, .ref (ad c2), .ref (ad 3), .ref (ad 166)] m) := by
  intro n
  induction n with
  | zero =>
    refine ⟨?_, ?_, ?_⟩ <;> intros <;> exfalso <;> omega
  | succ n ih =>
    refine ⟨?_, ?_, ?_⟩
    · intro m x4 x5 x6 w f j1 j2 j3 j4 hn
      refine g_X7_follow_11 (Pl_of hb2) ?_
      refine ⟨?_, ?_⟩
      · intro c1
        have k2 := y_lel (n := 8) rfl c1
        have w3 : WT (uL m 166 5 (1 : Int64)) := w.l
        have f3 : Fx (RS [2, 12, 14]) m0 (uL m 166 5 (1 : Int64)) := f.l rfl
        exact ih.2.1 _ _ _ _ _ w3 f3 (by show (0 : Int) ≤ (x4).toInt; omega) (by show (x4).toInt ≤ (6 : Int); omega) (by show (0 : Int) ≤ (0 : Int); omega) (by show (0 : Int) ≤ (47 : Int); omega) (by show (0 : Int) ≤ (0 : Int); omega) (by show (0 : Int) ≤ (6 : Int); omega) (by show (6 - (0 : Int)) * 2 + 1 < _; omega)
      · intro c4
        have k5 := y_nlel (n := 8) rfl c4
        refine ⟨?_, ?_⟩
        · exact vpi (by omega) (by omega)
        · have w6 : WT (uI m 172 x6.toNatClampNeg (0 : Int32)) := w.n rfl
          have f6 : Fx (RS [2, 12, 14]) m0 (uI m 172 x6.toNatClampNeg (0 : Int32)) := f.i rfl
          have t7 := ti_addc (x := x6) (y := (1 : Int32)) (c := 1) rfl (by omega)
          exact ih.1 _ _ _ _ w6 f6 (by show (0 : Int) ≤ (x4).toInt; omega) (by show (x4).toInt ≤ (6 : Int); omega) (by show (0 : Int) ≤ ((x6 + (1 : Int32))).toInt; omega) (by show ((x6 + (1 : Int32))).toInt ≤ (8 : Int); omega) (by show 1000 - ((x6 + (1 : Int32))).toInt < _; omega)
    · intro m x4 x5 x6 x7 w f j1 j2 j3 j4 j5 j6 hn
      refine g_X7_follow_43 (Pl_of hb2) ?_
      refine ⟨?_, ?_⟩
      · intro c1
        have k2 := z_le c1
        exact ⟨w, f, _, rfl⟩
      · intro c3
        have k4 := z_nle c3
        refine ⟨?_, ?_⟩
        · intro c5
          exact ⟨w, f, _, rfl⟩
        · intro c6
          refine ⟨?_, ?_⟩
          · intro c7
            have t8 := t_and1 (x5 >>> (x7 &&& 31))
            have k9 := y_eqr (n := 0) rfl c7
            exact ih.2.2 _ _ _ _ _ _ _ _ w f hb2 (by show (0 : Int) ≤ (x4).toInt; omega) (by show (x4).toInt ≤ (6 : Int); omega) (by show (0 : Int) ≤ (x6).toInt; omega) (by show (x6).toInt ≤ (47 : Int); omega) (by show (0 : Int) ≤ (x7).toInt; omega) (by show (x7).toInt ≤ (5 : Int); omega) (by show (0 : Int) ≤ (x6).toInt; omega) (by show (x6).toInt ≤ (47 : Int); omega) (by show (6 - (x7).toInt) * 2 < _; omega)
          · intro c10
            have t11 := t_and1 (x5 >>> (x7 &&& 31))
            have k12 := y_ner (n := 0) rfl c10
            exact ih.2.2 _ _ _ _ _ _ _ _ w f hb2 (by show (0 : Int) ≤ (x4).toInt; omega) (by show (x4).toInt ≤ (6 : Int); omega) (by show (0 : Int) ≤ (x6).toInt; omega) (by show (x6).toInt ≤ (47 : Int); omega) (by show (0 : Int) ≤ (x7).toInt; omega) (by show (x7).toInt ≤ (5 : Int); omega) (by show (0 : Int) ≤ (x6).toInt; omega) (by show (x6).toInt ≤ (47 : Int); omega) (by show (6 - (x7).toInt) * 2 < _; omega)
    · intro m c2 x4 x5 x6 x7 s0 s1 w f hc2 j1 j2 j3 j4 j5 j6 j7 j8 hn
      refine g_X7_follow_79 (Pl_of hb2) (Pl_of hc2) ?_
      refine (s_X7_followGame w hc2 (by show (0 : Int) ≤ (s1).toInt; omega) (by show (s1).toInt ≤ (47 : Int); omega)).to ?_
      rintro _ m1 ⟨w_m1, g1, rfl⟩
      have f_m1 : Fx (RS [2, 12, 14]) m0 m1 := f.tr g1 (RS_sub rfl)
      refine ⟨rfl, ?_⟩
      refine ⟨?_, ?_⟩
      · intro c2
        have r3 := w_m1.pl (k := 6) hb2 rfl rfl
        have t4 := ti_addc (x := x6) (y := (1 : Int32)) (c := 1) rfl (by omega)
        have k5 := z_le c2
        have t6 := ti_addc (x := x7) (y := (1 : Int32)) (c := 1) rfl (by omega)
        exact ih.2.1 _ _ _ _ _ w_m1 f_m1 (by show (0 : Int) ≤ (x4).toInt; omega) (by show (x4).toInt ≤ (6 : Int); omega) (by show (0 : Int) ≤ (0 : Int); omega) (by show (0 : Int) ≤ (47 : Int); omega) (by show (0 : Int) ≤ ((x7 + (1 : Int32))).toInt; omega) (by show ((x7 + (1 : Int32))).toInt ≤ (6 : Int); omega) (by show (6 - ((x7 + (1 : Int32))).toInt) * 2 + 1 < _; omega)
      · intro c7
        have r8 := w_m1.pl (k := 6) hb2 rfl rfl
        have t9 := ti_addc (x := x6) (y := (1 : Int32)) (c := 1) rfl (by omega)
        have k10 := z_nle c7
        have t11 := ti_addc (x := x7) (y := (1 : Int32)) (c := 1) rfl (by omega)
        exact ih.2.1 _ _ _ _ _ w_m1 f_m1 (by show (0 : Int) ≤ (x4).toInt; omega) (by show (x4).toInt ≤ (6 : Int); omega) (by show (0 : Int) ≤ ((x6 + (1 : Int32))).toInt; omega) (by show ((x6 + (1 : Int32))).toInt ≤ (47 : Int); omega) (by show (0 : Int) ≤ ((x7 + (1 : Int32))).toInt; omega) (by show ((x7 + (1 : Int32))).toInt ≤ (6 : Int); omega) (by show (6 - ((x7 + (1 : Int32))).toInt) * 2 + 1 < _; omega)
set_option maxHeartbeats 4000000 in
theorem s_X7_follow {ad : Nat → Nat} {d : Nat} {m : Wm} {b2 : Nat} {x4 x5 : Int32} (w : WT m) (hb2 : b2 = 134 ∨ b2 = 140) (i1 : (0 : Int) ≤ x4.toInt) (i2 : x4.toInt ≤ (6 : Int)) : Ct ad μX7_follow (d + 6) [.ref (ad 166), .ref (ad 3), .ref (ad b2), .ref (ad 21), .int x4, .int x5] m (fun r m' => WT m' ∧ Fx (RS [2, 12, 14]) m m' ∧ ∃ v : Int64, r = some (.long v)) := by
  have f : Fx (RS [2, 12, 14]) m m := Fx.rf
  refine v_X7_follow (Pl_of hb2) St_21 ?_
  refine (s_X8_copy w SS_167 SS_21).to ?_
  rintro _ m1 ⟨w_m1, g1, rfl⟩
  have f_m1 : Fx (RS [2, 12, 14]) m m1 := f.tr g1 (RS_sub rfl)
  refine ⟨rfl, ?_⟩
  exact (l_X7_follow (m0 := m) hb2 1000000).1 _ _ _ _ w_m1 f_m1 (by show (0 : Int) ≤ (x4).toInt; omega) (by show (x4).toInt ≤ (6 : Int); omega) (by show (0 : Int) ≤ (0 : Int); omega) (by show (0 : Int) ≤ (8 : Int); omega) (by show 1000 - (0 : Int) < _; omega)
set_option maxHeartbeats 4000000 in
theorem s_X0_store_173 {ad : Nat → Nat} {d : Nat} {m : Wm} {x3 : Int32} (w : WT m) : Ct ad μX0_store (d + 2) [.ref (ad 173), .ref (ad 3), .ref (ad 21), .int x3] m (fun r m' => WT m' ∧ Fx (RS [13]) m m' ∧ r = none) := by
  have f : Fx (RS [13]) m m := Fx.rf
  refine v_X0_store Ke_173 St_21 ?_
  refine (s_X8_copy w SS_174 SS_21).to ?_
  rintro _ m1 ⟨w_m1, g1, rfl⟩
  have f_m1 : Fx (RS [13]) m m1 := f.tr g1 (RS_sub rfl)
  refine ⟨rfl, ?_⟩
  refine ⟨?_, ?_, ?_, ?_, ?_, ?_⟩
  · decide
  · decide
  · decide
  · decide
  · decide
  · have w2 : WT (uI m1 173 2 (m1.1 3 5)) := w_m1.n rfl
    have f2 : Fx (RS [13]) m (uI m1 173 2 (m1.1 3 5)) := f_m1.i rfl
    have w3 : WT (uC (uI m1 173 2 (m1.1 3 5)) 4 (173 + 6) ((0 : Int32).toNatClampNeg) ((0 : Int32).toNatClampNeg) ((5 : Int32).toNatClampNeg)) := w2.c (fun _ => rfl)
    have f3 : Fx (RS [13]) m (uC (uI m1 173 2 (m1.1 3 5)) 4 (173 + 6) ((0 : Int32).toNatClampNeg) ((0 : Int32).toNatClampNeg) ((5 : Int32).toNatClampNeg)) := f2.c (fun _ => rfl)
    have w4 : WT (uI (uC (uI m1 173 2 (m1.1 3 5)) 4 (173 + 6) ((0 : Int32).toNatClampNeg) ((0 : Int32).toNatClampNeg) ((5 : Int32).toNatClampNeg)) 173 3 x3) := w3.n rfl
    have f4 : Fx (RS [13]) m (uI (uC (uI m1 173 2 (m1.1 3 5)) 4 (173 + 6) ((0 : Int32).toNatClampNeg) ((0 : Int32).toNatClampNeg) ((5 : Int32).toNatClampNeg)) 173 3 x3) := f3.i rfl
    have w5 : WT (uI (uI (uC (uI m1 173 2 (m1.1 3 5)) 4 (173 + 6) ((0 : Int32).toNatClampNeg) ((0 : Int32).toNatClampNeg) ((5 : Int32).toNatClampNeg)) 173 3 x3) 173 4 (1 : Int32)) := w4.n rfl
    have f5 : Fx (RS [13]) m (uI (uI (uC (uI m1 173 2 (m1.1 3 5)) 4 (173 + 6) ((0 : Int32).toNatClampNeg) ((0 : Int32).toNatClampNeg) ((5 : Int32).toNatClampNeg)) 173 3 x3) 173 4 (1 : Int32)) := f4.i rfl
    exact ⟨w5, f5, rfl⟩
set_option maxHeartbeats 4000000 in
theorem s_X0_store_180 {ad : Nat → Nat} {d : Nat} {m : Wm} {x3 : Int32} (w : WT m) : Ct ad μX0_store (d + 2) [.ref (ad 180), .ref (ad 3), .ref (ad 21), .int x3] m (fun r m' => WT m' ∧ Fx (RS [13]) m m' ∧ r = none) := by
  have f : Fx (RS [13]) m m := Fx.rf
  refine v_X0_store Ke_180 St_21 ?_
  refine (s_X8_copy w SS_181 SS_21).to ?_
  rintro _ m1 ⟨w_m1, g1, rfl⟩
  have f_m1 : Fx (RS [13]) m m1 := f.tr g1 (RS_sub rfl)
  refine ⟨rfl, ?_⟩
  refine ⟨?_, ?_, ?_, ?_, ?_, ?_⟩
  · decide
  · decide
  · decide
  · decide
  · decide
  · have w2 : WT (uI m1 180 2 (m1.1 3 5)) := w_m1.n rfl
    have f2 : Fx (RS [13]) m (uI m1 180 2 (m1.1 3 5)) := f_m1.i rfl
    have w3 : WT (uC (uI m1 180 2 (m1.1 3 5)) 4 (180 + 6) ((0 : Int32).toNatClampNeg) ((0 : Int32).toNatClampNeg) ((5 : Int32).toNatClampNeg)) := w2.c (fun _ => rfl)
    have f3 : Fx (RS [13]) m (uC (uI m1 180 2 (m1.1 3 5)) 4 (180 + 6) ((0 : Int32).toNatClampNeg) ((0 : Int32).toNatClampNeg) ((5 : Int32).toNatClampNeg)) := f2.c (fun _ => rfl)
    have w4 : WT (uI (uC (uI m1 180 2 (m1.1 3 5)) 4 (180 + 6) ((0 : Int32).toNatClampNeg) ((0 : Int32).toNatClampNeg) ((5 : Int32).toNatClampNeg)) 180 3 x3) := w3.n rfl
    have f4 : Fx (RS [13]) m (uI (uC (uI m1 180 2 (m1.1 3 5)) 4 (180 + 6) ((0 : Int32).toNatClampNeg) ((0 : Int32).toNatClampNeg) ((5 : Int32).toNatClampNeg)) 180 3 x3) := f3.i rfl
    have w5 : WT (uI (uI (uC (uI m1 180 2 (m1.1 3 5)) 4 (180 + 6) ((0 : Int32).toNatClampNeg) ((0 : Int32).toNatClampNeg) ((5 : Int32).toNatClampNeg)) 180 3 x3) 180 4 (1 : Int32)) := w4.n rfl
    have f5 : Fx (RS [13]) m (uI (uI (uC (uI m1 180 2 (m1.1 3 5)) 4 (180 + 6) ((0 : Int32).toNatClampNeg) ((0 : Int32).toNatClampNeg) ((5 : Int32).toNatClampNeg)) 180 3 x3) 180 4 (1 : Int32)) := f4.i rfl
    exact ⟨w5, f5, rfl⟩
theorem s_X0_store {ad : Nat → Nat} {d : Nat} {m : Wm} {b0 : Nat} {x3 : Int32} (w : WT m) (hb0 : b0 = 173 ∨ b0 = 180) : Ct ad μX0_store (d + 2) [.ref (ad b0), .ref (ad 3), .ref (ad 21), .int x3] m (fun r m' => WT m' ∧ Fx (RS [13]) m m' ∧ r = none) := by
  rcases hb0 with rfl | rfl
  · exact s_X0_store_173 w
  · exact s_X0_store_180 w
set_option maxHeartbeats 4000000 in
theorem s_X0_restore_173 {ad : Nat → Nat} {d : Nat} {m : Wm} (w : WT m) : Ct ad μX0_restore (d + 2) [.ref (ad 173), .ref (ad 3), .ref (ad 21)] m (fun r m' => WT m' ∧ Fx (RS [4, 42, 43]) m m' ∧ r = none) := by
  have f : Fx (RS [4, 42, 43]) m m := Fx.rf
  refine v_X0_restore Ke_173 St_21 ?_
  refine (s_X8_copy w SS_21 SS_174).to ?_
  rintro _ m1 ⟨w_m1, g1, rfl⟩
  have f_m1 : Fx (RS [4, 42, 43]) m m1 := f.tr g1 (RS_sub rfl)
  refine ⟨rfl, ?_⟩
  refine ⟨?_, ?_, ?_, ?_, ?_, ?_⟩
  · decide
  · decide
  · decide
  · decide
  · decide
  · have w2 : WT (uI m1 3 5 (m1.1 173 2)) := w_m1.n rfl
    have f2 : Fx (RS [4, 42, 43]) m (uI m1 3 5 (m1.1 173 2)) := f_m1.i rfl
    have w3 : WT (uC (uI m1 3 5 (m1.1 173 2)) (173 + 6) 4 ((0 : Int32).toNatClampNeg) ((0 : Int32).toNatClampNeg) ((5 : Int32).toNatClampNeg)) := w2.c (fun _ => rfl)
    have f3 : Fx (RS [4, 42, 43]) m (uC (uI m1 3 5 (m1.1 173 2)) (173 + 6) 4 ((0 : Int32).toNatClampNeg) ((0 : Int32).toNatClampNeg) ((5 : Int32).toNatClampNeg)) := f2.c (fun _ => rfl)
    exact ⟨w3, f3, rfl⟩
set_option maxHeartbeats 4000000 in
theorem s_X0_restore_180 {ad : Nat → Nat} {d : Nat} {m : Wm} (w : WT m) : Ct ad μX0_restore (d + 2) [.ref (ad 180), .ref (ad 3), .ref (ad 21)] m (fun r m' => WT m' ∧ Fx (RS [4, 42, 43]) m m' ∧ r = none) := by
  have f : Fx (RS [4, 42, 43]) m m := Fx.rf
  refine v_X0_restore Ke_180 St_21 ?_
  refine (s_X8_copy w SS_21 SS_181).to ?_
  rintro _ m1 ⟨w_m1, g1, rfl⟩
  have f_m1 : Fx (RS [4, 42, 43]) m m1 := f.tr g1 (RS_sub rfl)
  refine ⟨rfl, ?_⟩
  refine ⟨?_, ?_, ?_, ?_, ?_, ?_⟩
  · decide
  · decide
  · decide
  · decide
  · decide
  · have w2 : WT (uI m1 3 5 (m1.1 180 2)) := w_m1.n rfl
    have f2 : Fx (RS [4, 42, 43]) m (uI m1 3 5 (m1.1 180 2)) := f_m1.i rfl
    have w3 : WT (uC (uI m1 3 5 (m1.1 180 2)) (180 + 6) 4 ((0 : Int32).toNatClampNeg) ((0 : Int32).toNatClampNeg) ((5 : Int32).toNatClampNeg)) := w2.c (fun _ => rfl)
    have f3 : Fx (RS [4, 42, 43]) m (uC (uI m1 3 5 (m1.1 180 2)) (180 + 6) 4 ((0 : Int32).toNatClampNeg) ((0 : Int32).toNatClampNeg) ((5 : Int32).toNatClampNeg)) := f2.c (fun _ => rfl)
    exact ⟨w3, f3, rfl⟩
theorem s_X0_restore {ad : Nat → Nat} {d : Nat} {m : Wm} {b0 : Nat} (w : WT m) (hb0 : b0 = 173 ∨ b0 = 180) : Ct ad μX0_restore (d + 2) [.ref (ad b0), .ref (ad 3), .ref (ad 21)] m (fun r m' => WT m' ∧ Fx (RS [4, 42, 43]) m m' ∧ r = none) := by
  rcases hb0 with rfl | rfl
  · exact s_X0_restore_173 w
  · exact s_X0_restore_180 w
set_option maxHeartbeats 4000000 in
theorem l_X10_add {ad : Nat → Nat} {d : Nat} {m0 : Wm}  : ∀ n : Nat, (∀ (m : Wm) (x1 x2 : Int32), WT m → Fx (RS [0]) m0 m → (0 : Int) ≤ x2.toInt → x2.toInt ≤ (4 : Int) → ((m.1 1 1).toInt = (m0.1 1 1).toInt + x2.toInt) → ((m0.1 1 1).toInt ≤ 76) → 4 - x2.toInt < (n : Int) → AW ad E0 μX10_add d (fun r m' => WT m' ∧ Fx (RS [0]) m0 m' ∧ ∃ v : Int32, r = some (.int v) ∧ (0 : Int) ≤ v.toInt ∧ v.toInt ≤ 1 ∧ ((v.toInt = 0 ∧ (m'.1 1 1).toInt = (m0.1 1 1).toInt ∧ 76 < (m0.1 1 1).toInt) ∨ (v.toInt = 1 ∧ (m'.1 1 1).toInt = (m0.1 1 1).toInt + 4 ∧ (m0.1 1 1).toInt ≤ 76))) 13 [(0, .ref (ad 1)), (1, .int x1), (2, .int x2)] [] m) := by
  intro n
  induction n with
  | zero =>
    intros
    exfalso
    omega
  | succ n ih =>
    intro m x1 x2 w f j1 j2 j3 j4 hn
    refine g_X10_add_13  ?_
    refine ⟨?_, ?_⟩
    · intro c1
      have k2 := y_lel (n := 4) rfl c1
      have r3 := w.at (a := 1) (k := 1) rfl
      exact ⟨w, f, _, rfl, (by show (0 : Int) ≤ (1 : Int); omega), (by show (1 : Int) ≤ (1 : Int); omega), (by show ((1 : Int) = 0 ∧ ((m.1 1 1)).toInt = (m0.1 1 1).toInt ∧ 76 < (m0.1 1 1).toInt) ∨ ((1 : Int) = 1 ∧ ((m.1 1 1)).toInt = (m0.1 1 1).toInt + 4 ∧ (m0.1 1 1).toInt ≤ 76); omega)⟩
    · intro c4
      have k5 := y_nlel (n := 4) rfl c4
      refine ⟨?_, ?_⟩
      · have r6 := w.at (a := 1) (k := 1) rfl
        exact vpi (by omega) (by omega)
      · have w7 : WT (uI m 2 ((m.1 1 1).toNatClampNeg) (vp_nar .char ((((x1.toUInt32 >>> (((24 : Int32) - ((8 : Int32) * x2)).toUInt32 &&& (Int32.toUInt32 31))).toInt32 &&& (255 : Int32)).toUInt32 % 65536).toInt32))) := w.n rfl
        have f7 : Fx (RS [0]) m0 (uI m 2 ((m.1 1 1).toNatClampNeg) (vp_nar .char ((((x1.toUInt32 >>> (((24 : Int32) - ((8 : Int32) * x2)).toUInt32 &&& (Int32.toUInt32 31))).toInt32 &&& (255 : Int32)).toUInt32 % 65536).toInt32))) := f.i rfl
        have r9 := w.at (a := 1) (k := 1) rfl
        have t10 := ti_addc (x := (m.1 1 1)) (y := (1 : Int32)) (c := 1) rfl (by omega)
        have w8 : WT (uI (uI m 2 ((m.1 1 1).toNatClampNeg) (vp_nar .char ((((x1.toUInt32 >>> (((24 : Int32) - ((8 : Int32) * x2)).toUInt32 &&& (Int32.toUInt32 31))).toInt32 &&& (255 : Int32)).toUInt32 % 65536).toInt32))) 1 1 (((uI m 2 ((m.1 1 1).toNatClampNeg) (vp_nar .char ((((x1.toUInt32 >>> (((24 : Int32) - ((8 : Int32) * x2)).toUInt32 &&& (Int32.toUInt32 31))).toInt32 &&& (255 : Int32)).toUInt32 % 65536).toInt32))).1 1 1) + (1 : Int32))) := w7.t rfl (by show (0 : Int) ≤ (((m.1 1 1) + (1 : Int32))).toInt; omega) (by show (((m.1 1 1) + (1 : Int32))).toInt ≤ 80; omega)
        have f8 : Fx (RS [0]) m0 (uI (uI m 2 ((m.1 1 1).toNatClampNeg) (vp_nar .char ((((x1.toUInt32 >>> (((24 : Int32) - ((8 : Int32) * x2)).toUInt32 &&& (Int32.toUInt32 31))).toInt32 &&& (255 : Int32)).toUInt32 % 65536).toInt32))) 1 1 (((uI m 2 ((m.1 1 1).toNatClampNeg) (vp_nar .char ((((x1.toUInt32 >>> (((24 : Int32) - ((8 : Int32) * x2)).toUInt32 &&& (Int32.toUInt32 31))).toInt32 &&& (255 : Int32)).toUInt32 % 65536).toInt32))).1 1 1) + (1 : Int32))) := f7.i rfl
        have t11 := ti_addc (x := x2) (y := (1 : Int32)) (c := 1) rfl (by omega)
        exact ih _ _ _ w8 f8 (by show (0 : Int) ≤ ((x2 + (1 : Int32))).toInt; omega) (by show ((x2 + (1 : Int32))).toInt ≤ (4 : Int); omega) (by show (((m.1 1 1) + (1 : Int32))).toInt = (m0.1 1 1).toInt + ((x2 + (1 : Int32))).toInt; omega) (by show (m0.1 1 1).toInt ≤ 76; omega) (by show 4 - ((x2 + (1 : Int32))).toInt < _; omega)
set_option maxHeartbeats 4000000 in
theorem s_X10_add {ad : Nat → Nat} {d : Nat} {m : Wm} {x1 : Int32} (w : WT m) : Ct ad μX10_add d [.ref (ad 1), .int x1] m (fun r m' => WT m' ∧ Fx (RS [0]) m m' ∧ ∃ v : Int32, r = some (.int v) ∧ (0 : Int) ≤ v.toInt ∧ v.toInt ≤ 1 ∧ ((v.toInt = 0 ∧ (m'.1 1 1).toInt = (m.1 1 1).toInt ∧ 76 < (m.1 1 1).toInt) ∨ (v.toInt = 1 ∧ (m'.1 1 1).toInt = (m.1 1 1).toInt + 4 ∧ (m.1 1 1).toInt ≤ 76))) := by
  have f : Fx (RS [0]) m m := Fx.rf
  refine v_X10_add  ?_
  refine ⟨?_, ?_⟩
  · intro c1
    have r2 := w.at (a := 1) (k := 1) rfl
    have k3 := y_ler (n := 76) rfl c1
    exact (l_X10_add (m0 := m) 1000000) _ _ _ w f (by show (0 : Int) ≤ (0 : Int); omega) (by show (0 : Int) ≤ (4 : Int); omega) (by show ((m.1 1 1)).toInt = (m.1 1 1).toInt + (0 : Int); omega) (by show (m.1 1 1).toInt ≤ 76; omega) (by show 4 - (0 : Int) < _; omega)
  · intro c4
    have r5 := w.at (a := 1) (k := 1) rfl
    have k6 := y_nler (n := 76) rfl c4
    exact ⟨w, f, _, rfl, (by show (0 : Int) ≤ (0 : Int); omega), (by show (0 : Int) ≤ (1 : Int); omega), (by show ((0 : Int) = 0 ∧ ((m.1 1 1)).toInt = (m.1 1 1).toInt ∧ 76 < (m.1 1 1).toInt) ∨ ((0 : Int) = 1 ∧ ((m.1 1 1)).toInt = (m.1 1 1).toInt + 4 ∧ (m.1 1 1).toInt ≤ 76); omega)⟩
set_option maxHeartbeats 4000000 in
theorem s_X10_cut {ad : Nat → Nat} {d : Nat} {m : Wm} {x1 : Int32} (w : WT m) : Ct ad μX10_cut d [.ref (ad 1), .int x1] m (fun r m' => WT m' ∧ Fx (RS [0]) m m' ∧ ∃ v : Int32, r = some (.int v) ∧ (0 : Int) ≤ v.toInt ∧ v.toInt ≤ 1 ∧ ((v.toInt = 0 ∧ (m'.1 1 1).toInt = (m.1 1 1).toInt ∧ (x1.toInt < 0 ∨ (m.1 1 1).toInt < x1.toInt)) ∨ (v.toInt = 1 ∧ (m'.1 1 1).toInt = x1.toInt ∧ 0 ≤ x1.toInt ∧ x1.toInt ≤ (m.1 1 1).toInt))) := by
  have f : Fx (RS [0]) m m := Fx.rf
  refine v_X10_cut  ?_
  refine ⟨?_, ?_⟩
  · intro c1
    have k2 := y_ltr (n := 0) rfl c1
    have r3 := w.at (a := 1) (k := 1) rfl
    exact ⟨w, f, _, rfl, (by show (0 : Int) ≤ (0 : Int); omega), (by show (0 : Int) ≤ (1 : Int); omega), (by show ((0 : Int) = 0 ∧ ((m.1 1 1)).toInt = (m.1 1 1).toInt ∧ (x1.toInt < 0 ∨ (m.1 1 1).toInt < x1.toInt)) ∨ ((0 : Int) = 1 ∧ ((m.1 1 1)).toInt = x1.toInt ∧ 0 ≤ x1.toInt ∧ x1.toInt ≤ (m.1 1 1).toInt); omega)⟩
  · intro c4
    have k5 := y_nltr (n := 0) rfl c4
    refine ⟨?_, ?_⟩
    · intro c6
      have r7 := w.at (a := 1) (k := 1) rfl
      have k8 := z_le c6
      have w9 : WT (uI m 1 1 x1) := w.t rfl (by show (0 : Int) ≤ (x1).toInt; omega) (by show (x1).toInt ≤ 80; omega)
      have f9 : Fx (RS [0]) m (uI m 1 1 x1) := f.i rfl
      exact ⟨w9, f9, _, rfl, (by show (0 : Int) ≤ (1 : Int); omega), (by show (1 : Int) ≤ (1 : Int); omega), (by show ((1 : Int) = 0 ∧ (x1).toInt = (m.1 1 1).toInt ∧ (x1.toInt < 0 ∨ (m.1 1 1).toInt < x1.toInt)) ∨ ((1 : Int) = 1 ∧ (x1).toInt = x1.toInt ∧ 0 ≤ x1.toInt ∧ x1.toInt ≤ (m.1 1 1).toInt); omega)⟩
    · intro c10
      have r11 := w.at (a := 1) (k := 1) rfl
      have k12 := z_nle c10
      exact ⟨w, f, _, rfl, (by show (0 : Int) ≤ (0 : Int); omega), (by show (0 : Int) ≤ (1 : Int); omega), (by show ((0 : Int) = 0 ∧ ((m.1 1 1)).toInt = (m.1 1 1).toInt ∧ (x1.toInt < 0 ∨ (m.1 1 1).toInt < x1.toInt)) ∨ ((0 : Int) = 1 ∧ ((m.1 1 1)).toInt = x1.toInt ∧ 0 ≤ x1.toInt ∧ x1.toInt ≤ (m.1 1 1).toInt); omega)⟩
end
section
/-! SAFETY OF THE CLASS, BY PROGRAM (X11_sign .. X11_rounds) -/
set_option maxHeartbeats 4000000 in
theorem s_X11_sign {ad : Nat → Nat} {d : Nat} {m : Wm} {x1 : Int32} (w : WT m) : Ct ad μX11_sign (d + 1) [.ref (ad 0), .int x1] m (fun r m' => WT m' ∧ Fx (RS [0]) m m' ∧ ∃ v : Int32, r = some (.int v) ∧ ((v.toInt = -1 ∧ (m'.1 1 1).toInt = (m.1 1 1).toInt ∧ 76 < (m.1 1 1).toInt) ∨ (v.toInt = (m.1 1 1).toInt + 4 ∧ (m'.1 1 1).toInt = (m.1 1 1).toInt + 4 ∧ (m.1 1 1).toInt ≤ 76))) := by
  have f : Fx (RS [0]) m m := Fx.rf
  refine v_X11_sign  ?_
  refine (s_X10_add w).to ?_
  rintro _ m1 ⟨w_m1, g1, v2, rfl, p3, p4, p2⟩
  have f_m1 : Fx (RS [0]) m m1 := f.tr g1 (RS_sub rfl)
  have p5 : (v2.toInt = 0 ∧ (m1.1 1 1).toInt = ((m.1 1 1)).toInt ∧ 76 < ((m.1 1 1)).toInt) ∨ (v2.toInt = 1 ∧ (m1.1 1 1).toInt = ((m.1 1 1)).toInt + 4 ∧ ((m.1 1 1)).toInt ≤ 76) := p2
  clear p2
  refine ⟨v2, rfl, ?_⟩
  refine ⟨?_, ?_⟩
  · intro c6
    have k7 := y_eqr (n := 0) rfl c6
    have r8 := w_m1.at (a := 1) (k := 1) rfl
    exact ⟨w_m1, f_m1, _, rfl, (by show ((-1 : Int) = -1 ∧ ((m1.1 1 1)).toInt = (m.1 1 1).toInt ∧ 76 < (m.1 1 1).toInt) ∨ ((-1 : Int) = (m.1 1 1).toInt + 4 ∧ ((m1.1 1 1)).toInt = (m.1 1 1).toInt + 4 ∧ (m.1 1 1).toInt ≤ 76); omega)⟩
  · intro c9
    have k10 := y_ner (n := 0) rfl c9
    have r11 := w_m1.at (a := 1) (k := 1) rfl
    exact ⟨w_m1, f_m1, _, rfl, (by show (((m1.1 1 1)).toInt = -1 ∧ ((m1.1 1 1)).toInt = (m.1 1 1).toInt ∧ 76 < (m.1 1 1).toInt) ∨ (((m1.1 1 1)).toInt = (m.1 1 1).toInt + 4 ∧ ((m1.1 1 1)).toInt = (m.1 1 1).toInt + 4 ∧ (m.1 1 1).toInt ≤ 76); omega)⟩
set_option maxHeartbeats 4000000 in
theorem s_X11_end {ad : Nat → Nat} {d : Nat} {m : Wm} {x1 : Int32} (w : WT m) : Ct ad μX11_end (d + 1) [.ref (ad 0), .int x1] m (fun r m' => WT m' ∧ Fx (RS [0]) m m' ∧ ∃ v : Int32, r = some (.int v) ∧ (0 : Int) ≤ v.toInt ∧ v.toInt ≤ 1 ∧ ((v.toInt = 0 ∧ (m'.1 1 1).toInt = (m.1 1 1).toInt ∧ (x1.toInt < 0 ∨ (m.1 1 1).toInt < x1.toInt)) ∨ (v.toInt = 1 ∧ (m'.1 1 1).toInt = x1.toInt ∧ 0 ≤ x1.toInt ∧ x1.toInt ≤ (m.1 1 1).toInt))) := by
  have f : Fx (RS [0]) m m := Fx.rf
  refine v_X11_end  ?_
  refine (s_X10_cut w).to ?_
  rintro _ m1 ⟨w_m1, g1, v2, rfl, p3, p4, p2⟩
  have f_m1 : Fx (RS [0]) m m1 := f.tr g1 (RS_sub rfl)
  have p5 : (v2.toInt = 0 ∧ (m1.1 1 1).toInt = ((m.1 1 1)).toInt ∧ ((x1).toInt < 0 ∨ ((m.1 1 1)).toInt < (x1).toInt)) ∨ (v2.toInt = 1 ∧ (m1.1 1 1).toInt = (x1).toInt ∧ 0 ≤ (x1).toInt ∧ (x1).toInt ≤ ((m.1 1 1)).toInt) := p2
  clear p2
  refine ⟨v2, rfl, ?_⟩
  refine ⟨?_, ?_⟩
  · exact bz_of (by omega) (by omega)
  · have r6 := w_m1.at (a := 1) (k := 1) rfl
    exact ⟨w_m1, f_m1, _, rfl, (by show (0 : Int) ≤ (v2).toInt; omega), (by show (v2).toInt ≤ (1 : Int); omega), (by show ((v2).toInt = 0 ∧ ((m1.1 1 1)).toInt = (m.1 1 1).toInt ∧ (x1.toInt < 0 ∨ (m.1 1 1).toInt < x1.toInt)) ∨ ((v2).toInt = 1 ∧ ((m1.1 1 1)).toInt = x1.toInt ∧ 0 ≤ x1.toInt ∧ x1.toInt ≤ (m.1 1 1).toInt); omega)⟩
set_option maxHeartbeats 4000000 in
theorem l_X11_league {ad : Nat → Nat} {d : Nat} {m0 : Wm}  : ∀ n : Nat, (∀ (m : Wm) (x2 : Int32), WT m → Fx (RS [0, 3, 4, 7, 8, 13, 41, 42, 44, 53]) m0 m → (0 : Int) ≤ x2.toInt → x2.toInt ≤ (2 : Int) → ((m.1 1 1).toInt = 0) → 2 - x2.toInt < (n : Int) → AW ad E0 μX11_league (d + 5) (fun r m' => WT m' ∧ Fx (RS [0, 3, 4, 7, 8, 13, 41, 42, 44, 53]) m0 m' ∧ ∃ v : Int32, r = some (.int v) ∧ ((m'.1 1 1).toInt = 0)) 101 [(0, .ref (ad 0)), (2, .int x2)] [] m) := by
  intro n
  induction n with
  | zero =>
    intros
    exfalso
    omega
  | succ n ih =>
    intro m x2 w f j1 j2 j3 hn
    refine g_X11_league_101  ?_
    refine ⟨?_, ?_⟩
    · intro c1
      have k2 := y_lel (n := 2) rfl c1
      have r3 := w.at (a := 1) (k := 1) rfl
      exact ⟨w, f, _, rfl, (by show ((m.1 1 1)).toInt = 0; omega)⟩
    · intro c4
      have k5 := y_nlel (n := 2) rfl c4
      refine ⟨?_, ?_⟩
      · exact vpi (by omega) (by omega)
      · obtain ⟨r1, e6, q7⟩ := w.keep (x := x2) (by omega) (by omega)
        refine ⟨r1, e6, Ke_of q7, ?_⟩
        have w8 : WT (uI m r1 4 (0 : Int32)) := by rcases q7 with rfl | rfl <;> exact w.n rfl
        have f8 : Fx (RS [0, 3, 4, 7, 8, 13, 41, 42, 44, 53]) m0 (uI m r1 4 (0 : Int32)) := f.i (by rcases q7 with rfl | rfl <;> rfl)
        have t9 := ti_addc (x := x2) (y := (1 : Int32)) (c := 1) rfl (by omega)
        have r10 := w.at (a := 1) (k := 1) rfl
        have e11 : (((uI m r1 4 (0 : Int32)).1 1 1)).toInt = ((m.1 1 1)).toInt := congrArg _ (by rcases q7 with rfl | rfl <;> rfl)
        have r12 := w8.at (a := 1) (k := 1) rfl
        exact ih _ _ w8 f8 (by show (0 : Int) ≤ ((x2 + (1 : Int32))).toInt; omega) (by show ((x2 + (1 : Int32))).toInt ≤ (2 : Int); omega) (by show (((uI m r1 4 (0 : Int32)).1 1 1)).toInt = 0; omega) (by show 2 - ((x2 + (1 : Int32))).toInt < _; omega)
set_option maxHeartbeats 4000000 in
theorem s_X11_league {ad : Nat → Nat} {d : Nat} {m : Wm} (w : WT m) : Ct ad μX11_league (d + 5) [.ref (ad 0)] m (fun r m' => WT m' ∧ Fx (RS [0, 3, 4, 7, 8, 13, 41, 42, 44, 53]) m m' ∧ ∃ v : Int32, r = some (.int v) ∧ ((m'.1 1 1).toInt = 0)) := by
  have f : Fx (RS [0, 3, 4, 7, 8, 13, 41, 42, 44, 53]) m m := Fx.rf
  refine v_X11_league  ?_
  refine ⟨?_, ?_⟩
  · intro c1
    have r2 := w.at (a := 1) (k := 1) rfl
    have k3 := y_ner (n := 0) rfl c1
    refine (s_X4_read w).to ?_
    rintro _ m1 ⟨w_m1, g4, v2, rfl⟩
    have f_m1 : Fx (RS [0, 3, 4, 7, 8, 13, 41, 42, 44, 53]) m m1 := f.tr g4 (RS_sub rfl)
    have e5 : (m1.1 1 1).toInt = ((m.1 1 1)).toInt := congrArg _ (g4.at (a := 1) (k := 1) (by decide))
    refine ⟨v2, rfl, ?_⟩
    refine ⟨?_, ?_⟩
    · intro c6
      have k7 := y_eqr (n := -1) rfl c6
      have w8 : WT (uI m1 1 1 (0 : Int32)) := w_m1.t rfl (by show (0 : Int) ≤ (0 : Int); omega) (by show (0 : Int) ≤ 80; omega)
      have f8 : Fx (RS [0, 3, 4, 7, 8, 13, 41, 42, 44, 53]) m (uI m1 1 1 (0 : Int32)) := f_m1.i rfl
      refine (s_X4_enter w8).to ?_
      rintro _ m3 ⟨w_m3, g9, rfl⟩
      have f_m3 : Fx (RS [0, 3, 4, 7, 8, 13, 41, 42, 44, 53]) m m3 := f8.tr g9 (RS_sub rfl)
      have e10 : (m3.1 1 1).toInt = (0 : Int) := congrArg _ (g9.at (a := 1) (k := 1) (by decide))
      refine ⟨rfl, ?_⟩
      refine ⟨?_, ?_⟩
      · intro c11
        have k12 := y_eqr (n := 0) rfl c11
        have w13 : WT (uI m3 31 1 (0 : Int32)) := w_m3.t rfl (by show (0 : Int) ≤ (0 : Int); omega) (by show (0 : Int) ≤ 20; omega)
        have f13 : Fx (RS [0, 3, 4, 7, 8, 13, 41, 42, 44, 53]) m (uI m3 31 1 (0 : Int32)) := f_m3.i rfl
        have r14 := w_m3.at (a := 1) (k := 1) rfl
        exact (l_X11_league (m0 := m) 1000000) _ _ w13 f13 (by show (0 : Int) ≤ (0 : Int); omega) (by show (0 : Int) ≤ (2 : Int); omega) (by show ((m3.1 1 1)).toInt = 0; omega) (by show 2 - (0 : Int) < _; omega)
      · intro c15
        have k16 := y_ner (n := 0) rfl c15
        obtain ⟨r4, e17, q18⟩ := w_m3.r09
        refine ⟨r4, e17, Pl_of q18, ?_⟩
        refine (s_X3_clear w_m3 q18).to ?_
        rintro _ m5 ⟨w_m5, g19, rfl, p20⟩
        have f_m5 : Fx (RS [0, 3, 4, 7, 8, 13, 41, 42, 44, 53]) m m5 := f_m3.tr g19 (RS_sub rfl)
        have p21 : (m5.1 r4 5).toInt = 0 := p20
        clear p20
        have e22 : (m5.1 1 1).toInt = ((m3.1 1 1)).toInt := congrArg _ (g19.at (a := 1) (k := 1) (by decide))
        refine ⟨rfl, ?_⟩
        have w23 : WT (uI m5 0 11 (0 : Int32)) := w_m5.n rfl
        have f23 : Fx (RS [0, 3, 4, 7, 8, 13, 41, 42, 44, 53]) m (uI m5 0 11 (0 : Int32)) := f_m5.i rfl
        have w24 : WT (uI (uI m5 0 11 (0 : Int32)) 0 15 (0 : Int32)) := w23.t rfl (by show (0 : Int) ≤ (0 : Int); omega) (by show (0 : Int) ≤ 12; omega)
        have f24 : Fx (RS [0, 3, 4, 7, 8, 13, 41, 42, 44, 53]) m (uI (uI m5 0 11 (0 : Int32)) 0 15 (0 : Int32)) := f23.i rfl
        have w25 : WT (uI (uI (uI m5 0 11 (0 : Int32)) 0 15 (0 : Int32)) 31 1 (0 : Int32)) := w24.t rfl (by show (0 : Int) ≤ (0 : Int); omega) (by show (0 : Int) ≤ 20; omega)
        have f25 : Fx (RS [0, 3, 4, 7, 8, 13, 41, 42, 44, 53]) m (uI (uI (uI m5 0 11 (0 : Int32)) 0 15 (0 : Int32)) 31 1 (0 : Int32)) := f24.i rfl
        have r26 := w_m5.at (a := 1) (k := 1) rfl
        exact (l_X11_league (m0 := m) 1000000) _ _ w25 f25 (by show (0 : Int) ≤ (0 : Int); omega) (by show (0 : Int) ≤ (2 : Int); omega) (by show ((m5.1 1 1)).toInt = 0; omega) (by show 2 - (0 : Int) < _; omega)
    · intro c27
      have k28 := y_ner (n := -1) rfl c27
      have w29 : WT (uI m1 1 1 (0 : Int32)) := w_m1.t rfl (by show (0 : Int) ≤ (0 : Int); omega) (by show (0 : Int) ≤ 80; omega)
      have f29 : Fx (RS [0, 3, 4, 7, 8, 13, 41, 42, 44, 53]) m (uI m1 1 1 (0 : Int32)) := f_m1.i rfl
      exact ⟨w29, f29, _, rfl, (by show (0 : Int) = 0; omega)⟩
  · intro c30
    have r31 := w.at (a := 1) (k := 1) rfl
    have k32 := y_eqr (n := 0) rfl c30
    exact ⟨w, f, _, rfl, (by show ((m.1 1 1)).toInt = 0; omega)⟩
set_option maxHeartbeats 4000000 in
theorem s_X11_rule {ad : Nat → Nat} {d : Nat} {m : Wm} (w : WT m) : Ct ad μX11_rule (d + 5) [.ref (ad 0)] m (fun r m' => WT m' ∧ Fx (RS [0, 1]) m m' ∧ ∃ v : Int32, r = some (.int v) ∧ ((m'.1 1 1).toInt = 0)) := by
  have f : Fx (RS [0, 1]) m m := Fx.rf
  refine v_X11_rule  ?_
  obtain ⟨r1, e1, q2⟩ := w.r32
  refine ⟨r1, e1, Ru_of q2, ?_⟩
  refine (s_X5_compile w q2).to ?_
  rintro _ m2 ⟨w_m2, g3, v3, rfl⟩
  have f_m2 : Fx (RS [0, 1]) m m2 := f.tr g3 (RS_sub rfl)
  refine ⟨v3, rfl, ?_⟩
  refine ⟨?_, ?_⟩
  · intro c4
    have k5 := y_eqr (n := -1) rfl c4
    obtain ⟨r4, e6, q7⟩ := w_m2.r31
    refine ⟨r4, e6, Ru_of q7, ?_⟩
    obtain ⟨r5, e8, q9⟩ := w_m2.r32
    refine ⟨r5, e8, Ru_of q9, ?_⟩
    have w10 : WT (uI m2 1 1 (0 : Int32)) := w_m2.t rfl (by show (0 : Int) ≤ (0 : Int); omega) (by show (0 : Int) ≤ 80; omega)
    have f10 : Fx (RS [0, 1]) m (uI m2 1 1 (0 : Int32)) := f_m2.i rfl
    have w11 : WT (uR (uI m2 1 1 (0 : Int32)) 3 1 (some r5)) := w10.rR (by decide) q9
    have f11 : Fx (RS [0, 1]) m (uR (uI m2 1 1 (0 : Int32)) 3 1 (some r5)) := f10.r rfl
    have w12 : WT (uR (uR (uI m2 1 1 (0 : Int32)) 3 1 (some r5)) 3 2 (some r4)) := w11.rR (by decide) q7
    have f12 : Fx (RS [0, 1]) m (uR (uR (uI m2 1 1 (0 : Int32)) 3 1 (some r5)) 3 2 (some r4)) := f11.r rfl
    exact ⟨w12, f12, _, rfl, (by show (0 : Int) = 0; omega)⟩
  · intro c13
    have k14 := y_ner (n := -1) rfl c13
    have w15 : WT (uI m2 1 1 (0 : Int32)) := w_m2.t rfl (by show (0 : Int) ≤ (0 : Int); omega) (by show (0 : Int) ≤ 80; omega)
    have f15 : Fx (RS [0, 1]) m (uI m2 1 1 (0 : Int32)) := f_m2.i rfl
    exact ⟨w15, f15, _, rfl, (by show (0 : Int) = 0; omega)⟩
set_option maxHeartbeats 4000000 in
theorem s_X11_plan {ad : Nat → Nat} {d : Nat} {m : Wm} (w : WT m) : Ct ad μX11_plan (d + 4) [.ref (ad 0)] m (fun r m' => WT m' ∧ Fx (RS [0, 7, 44, 54]) m m' ∧ ∃ v : Int32, r = some (.int v) ∧ ((m'.1 1 1).toInt = 0)) := by
  have f : Fx (RS [0, 7, 44, 54]) m m := Fx.rf
  refine v_X11_plan  ?_
  obtain ⟨r1, e1, q2⟩ := w.r010
  refine ⟨r1, e1, Pl_of q2, ?_⟩
  have r3 := w.at (a := 3) (k := 3) rfl
  refine (s_X3_compile w q2 (by show (0 : Int) ≤ ((m.1 3 3)).toInt; omega) (by show ((m.1 3 3)).toInt ≤ (8 : Int); omega)).to ?_
  rintro _ m2 ⟨w_m2, g4, v3, rfl⟩
  have f_m2 : Fx (RS [0, 7, 44, 54]) m m2 := f.tr g4 (RS_sub rfl)
  refine ⟨v3, rfl, ?_⟩
  refine ⟨?_, ?_⟩
  · intro c5
    have k6 := y_eqr (n := -1) rfl c5
    obtain ⟨r4, e7, q8⟩ := w_m2.r09
    refine ⟨r4, e7, Pl_of q8, ?_⟩
    obtain ⟨r5, e9, q10⟩ := w_m2.r010
    refine ⟨r5, e9, Pl_of q10, ?_⟩
    have w11 : WT (uI m2 1 1 (0 : Int32)) := w_m2.t rfl (by show (0 : Int) ≤ (0 : Int); omega) (by show (0 : Int) ≤ 80; omega)
    have f11 : Fx (RS [0, 7, 44, 54]) m (uI m2 1 1 (0 : Int32)) := f_m2.i rfl
    have w12 : WT (uR (uI m2 1 1 (0 : Int32)) 0 9 (some r5)) := w11.rP (by decide) q10
    have f12 : Fx (RS [0, 7, 44, 54]) m (uR (uI m2 1 1 (0 : Int32)) 0 9 (some r5)) := f11.r rfl
    refine ⟨r5, rfl, Pl_of q10, ?_⟩
    have w15 : WT (uR (uR (uI m2 1 1 (0 : Int32)) 0 9 (some r5)) 0 10 (some r4)) := w12.rP (by decide) q8
    have f15 : Fx (RS [0, 7, 44, 54]) m (uR (uR (uI m2 1 1 (0 : Int32)) 0 9 (some r5)) 0 10 (some r4)) := f12.r rfl
    have w16 : WT (uI (uR (uR (uI m2 1 1 (0 : Int32)) 0 9 (some r5)) 0 10 (some r4)) 0 11 (0 : Int32)) := w15.n rfl
    have f16 : Fx (RS [0, 7, 44, 54]) m (uI (uR (uR (uI m2 1 1 (0 : Int32)) 0 9 (some r5)) 0 10 (some r4)) 0 11 (0 : Int32)) := f15.i rfl
    have r17 := w16.pl (k := 5) q10 rfl rfl
    exact ⟨w16, f16, _, rfl, (by show (0 : Int) = 0; omega)⟩
  · intro c18
    have k19 := y_ner (n := -1) rfl c18
    have w20 : WT (uI m2 1 1 (0 : Int32)) := w_m2.t rfl (by show (0 : Int) ≤ (0 : Int); omega) (by show (0 : Int) ≤ 80; omega)
    have f20 : Fx (RS [0, 7, 44, 54]) m (uI m2 1 1 (0 : Int32)) := f_m2.i rfl
    exact ⟨w20, f20, _, rfl, (by show (0 : Int) = 0; omega)⟩
set_option maxHeartbeats 4000000 in
theorem s_X11_skill {ad : Nat → Nat} {d : Nat} {m : Wm} {x1 x2 : Int32} (w : WT m) : Ct ad μX11_skill (d + 1) [.ref (ad 0), .int x1, .int x2] m (fun r m' => WT m' ∧ Fx (RS []) m m' ∧ ∃ v : Int32, r = some (.int v)) := by
  have f : Fx (RS []) m m := Fx.rf
  refine v_X11_skill  ?_
  refine (s_X1_has w).to ?_
  rintro _ m1 ⟨w_m1, g1, v2, rfl, p3, p4, p2⟩
  have f_m1 : Fx (RS []) m m1 := f.tr g1 (RS_sub rfl)
  have p5 : (v2.toInt = 0 ∧ ((x1).toInt < 0 ∨ ((m.1 3 3)).toInt ≤ (x1).toInt)) ∨ (v2.toInt = 1 ∧ 0 ≤ (x1).toInt ∧ (x1).toInt < ((m.1 3 3)).toInt ∧ (x1).toInt ≤ 7) := p2
  clear p2
  refine ⟨v2, rfl, ?_⟩
  refine ⟨?_, ?_⟩
  · intro c6
    have k7 := y_eqr (n := 0) rfl c6
    exact ⟨w_m1, f_m1, _, rfl⟩
  · intro c8
    have k9 := y_ner (n := 0) rfl c8
    refine (s_X1_knows w_m1).to ?_
    rintro _ m3 ⟨w_m3, g10, v4, rfl, p11, p12⟩
    have f_m3 : Fx (RS []) m m3 := f_m1.tr g10 (RS_sub rfl)
    refine ⟨v4, rfl, ?_⟩
    refine ⟨?_, ?_⟩
    · intro c13
      have k14 := y_eqr (n := 0) rfl c13
      exact ⟨w_m3, f_m3, _, rfl⟩
    · intro c15
      have k16 := y_ner (n := 0) rfl c15
      refine (s_X8_skillOf w_m3 SS_21).to ?_
      rintro _ m5 ⟨w_m5, g17, v6, rfl⟩
      have f_m5 : Fx (RS []) m m5 := f_m3.tr g17 (RS_sub rfl)
      refine ⟨v6, rfl, ?_⟩
      exact ⟨w_m5, f_m5, _, rfl⟩
set_option maxHeartbeats 4000000 in
theorem s_X11_law {ad : Nat → Nat} {d : Nat} {m : Wm} {x1 x2 : Int32} (w : WT m) : Ct ad μX11_law (d + 1) [.ref (ad 0), .int x1, .int x2] m (fun r m' => WT m' ∧ Fx (RS [43]) m m' ∧ ∃ v : Int32, r = some (.int v)) := by
  have f : Fx (RS [43]) m m := Fx.rf
  refine v_X11_law  ?_
  refine (s_X1_allows w).to ?_
  rintro _ m1 ⟨w_m1, g1, v2, rfl, p3, p4, p2⟩
  have f_m1 : Fx (RS [43]) m m1 := f.tr g1 (RS_sub rfl)
  have p5 : v2.toInt = 0 ∨ (0 ≤ (x1).toInt ∧ (x1).toInt ≤ 4) := p2
  clear p2
  refine ⟨v2, rfl, ?_⟩
  refine ⟨?_, ?_⟩
  · intro c6
    have k7 := y_ner (n := 0) rfl c6
    refine ⟨?_, ?_⟩
    · exact vpi (by omega) (by omega)
    · refine ⟨?_, ?_⟩
      · exact vpi (by omega) (by omega)
      · have w8 : WT (uI m1 4 x1.toNatClampNeg x2) := w_m1.n rfl
        have f8 : Fx (RS [43]) m (uI m1 4 x1.toNatClampNeg x2) := f_m1.i rfl
        exact ⟨w8, f8, _, rfl⟩
  · intro c9
    have k10 := y_eqr (n := 0) rfl c9
    exact ⟨w_m1, f_m1, _, rfl⟩
set_option maxHeartbeats 4000000 in
theorem s_X11_entry {ad : Nat → Nat} {d : Nat} {m : Wm} {x0 x1 : Int32} (w : WT m) : Ct ad μX11_entry d [.int x0, .int x1] m (fun r m' => WT m' ∧ Fx (RS []) m m' ∧ ∃ v : Int32, r = some (.int v)) := by
  have f : Fx (RS []) m m := Fx.rf
  refine v_X11_entry  ?_
  refine ⟨?_, ?_⟩
  · intro c1
    have k2 := y_ner (n := 0) rfl c1
    refine ⟨?_, ?_⟩
    · intro c3
      have k4 := y_ner (n := 1) rfl c3
      exact ⟨w, f, _, rfl⟩
    · intro c5
      have k6 := y_eqr (n := 1) rfl c5
      exact ⟨w, f, _, rfl⟩
  · intro c7
    have k8 := y_eqr (n := 0) rfl c7
    exact ⟨w, f, _, rfl⟩
set_option maxHeartbeats 4000000 in
theorem l_X11_sheet {ad : Nat → Nat} {d : Nat} {m0 : Wm}  : ∀ n : Nat, (∀ (m : Wm) (x1 x2 x3 x4 x5 s0 : Int32), WT m → Fx (RS [4, 53]) m0 m → 0 * x1.toInt + 1000 < (n : Int) → AW ad E0 μX11_sheet (d + 1) (fun r m' => WT m' ∧ Fx (RS [4, 53]) m0 m' ∧ ∃ v : Int32, r = some (.int v)) 38 [(0, .ref (ad 0)), (1, .int x1), (2, .int x2), (3, .int x3), (4, .int x4), (5, .int x5)] [.int s0] m) ∧ (∀ (m : Wm) (x1 x2 x3 x4 x5 x6 x7 x8 : Int32), WT m → Fx (RS [4, 53]) m0 m → (0 : Int) ≤ x8.toInt → x8.toInt ≤ (8 : Int) → (8 - x8.toInt) * 2 + 1 < (n : Int) → AW ad E0 μX11_sheet (d + 1) (fun r m' => WT m' ∧ Fx (RS [4, 53]) m0 m' ∧ ∃ v : Int32, r = some (.int v)) 58 [(0, .ref (ad 0)), (1, .int x1), (2, .int x2), (3, .int x3), (4, .int x4), (5, .int x5), (6, .int x6), (7, .int x7), (8, .int x8)] [] m) ∧ (∀ (m : Wm) (x1 x2 x3 x4 x5 x6 x7 x8 s0 : Int32), WT m → Fx (RS [4, 53]) m0 m → (0 : Int) ≤ x8.toInt → x8.toInt ≤ (7 : Int) → (8 - x8.toInt) * 2 < (n : Int) → AW ad E0 μX11_sheet (d + 1) (fun r m' => WT m' ∧ Fx (RS [4, 53]) m0 m' ∧ ∃ v : Int32, r = some (.int v)) 103 [(0, .ref (ad 0)), (1, .int x1), (2, .int x2), (3, .int x3), (4, .int x4), (5, .int x5), (6, .int x6), (7, .int x7), (8, .int x8)] [.int s0] m) := by
  intro n
  induction n with
  | zero =>
    refine ⟨?_, ?_, ?_⟩ <;> intros <;> exfalso <;> omega
  | succ n ih =>
    refine ⟨?_, ?_, ?_⟩
    · intro m x1 x2 x3 x4 x5 s0 w f  hn
      refine g_X11_sheet_38  ?_
      refine ⟨?_, ?_⟩
      · intro c1
        have k2 := y_lel (n := 0) rfl c1
        exact ih.2.1 _ _ _ _ _ _ _ _ _ w f (by show (0 : Int) ≤ (0 : Int); omega) (by show (0 : Int) ≤ (8 : Int); omega) (by show (8 - (0 : Int)) * 2 + 1 < _; omega)
      · intro c3
        have k4 := y_nlel (n := 0) rfl c3
        refine ⟨?_, ?_⟩
        · intro c5
          have k6 := y_ner (n := 0) rfl c5
          exact ih.2.1 _ _ _ _ _ _ _ _ _ w f (by show (0 : Int) ≤ (0 : Int); omega) (by show (0 : Int) ≤ (8 : Int); omega) (by show (8 - (0 : Int)) * 2 + 1 < _; omega)
        · intro c7
          have k8 := y_eqr (n := 0) rfl c7
          exact ⟨w, f, _, rfl⟩
    · intro m x1 x2 x3 x4 x5 x6 x7 x8 w f j1 j2 hn
      refine g_X11_sheet_58  ?_
      refine ⟨?_, ?_⟩
      · intro c1
        have r2 := w.at (a := 3) (k := 3) rfl
        have k3 := z_le c1
        refine ⟨?_, ?_⟩
        · intro c4
          have k5 := y_eqr (n := 0) rfl c4
          have w6 : WT (uI m 31 1 (0 : Int32)) := w.t rfl (by show (0 : Int) ≤ (0 : Int); omega) (by show (0 : Int) ≤ 20; omega)
          have f6 : Fx (RS [4, 53]) m0 (uI m 31 1 (0 : Int32)) := f.i rfl
          exact ⟨w6, f6, _, rfl⟩
        · intro c7
          have k8 := y_ner (n := 0) rfl c7
          have w9 : WT (uI m 31 1 (0 : Int32)) := w.t rfl (by show (0 : Int) ≤ (0 : Int); omega) (by show (0 : Int) ≤ 20; omega)
          have f9 : Fx (RS [4, 53]) m0 (uI m 31 1 (0 : Int32)) := f.i rfl
          exact ⟨w9, f9, _, rfl⟩
      · intro c10
        have r11 := w.at (a := 3) (k := 3) rfl
        have k12 := z_nle c10
        refine ⟨?_, ?_⟩
        · intro c13
          have k14 := y_ner (n := 0) rfl c13
          exact ih.2.2 _ _ _ _ _ _ _ _ _ _ w f (by show (0 : Int) ≤ (x8).toInt; omega) (by show (x8).toInt ≤ (7 : Int); omega) (by show (8 - (x8).toInt) * 2 < _; omega)
        · intro c15
          have k16 := y_eqr (n := 0) rfl c15
          refine ⟨?_, ?_⟩
          · intro c17
            have k18 := z_lt c17
            refine (s_X11_entry w).to ?_
            rintro _ m1 ⟨w_m1, g19, v2, rfl⟩
            have f_m1 : Fx (RS [4, 53]) m0 m1 := f.tr g19 (RS_sub rfl)
            refine ⟨v2, rfl, ?_⟩
            refine (s_X11_clamp w_m1).to ?_
            rintro _ m3 ⟨w_m3, g20, v4, rfl, p21⟩
            have f_m3 : Fx (RS [4, 53]) m0 m3 := f_m1.tr g20 (RS_sub rfl)
            have p22 : (7 : Int) < (0 : Int) ∨ ((0 : Int) ≤ v4.toInt ∧ v4.toInt ≤ (7 : Int)) := p21
            clear p21
            refine ⟨v4, rfl, ?_⟩
            exact ih.2.2 _ _ _ _ _ _ _ _ _ _ w_m3 f_m3 (by show (0 : Int) ≤ (x8).toInt; omega) (by show (x8).toInt ≤ (7 : Int); omega) (by show (8 - (x8).toInt) * 2 < _; omega)
          · intro c23
            have k24 := z_nlt c23
            exact ih.2.2 _ _ _ _ _ _ _ _ _ _ w f (by show (0 : Int) ≤ (x8).toInt; omega) (by show (x8).toInt ≤ (7 : Int); omega) (by show (8 - (x8).toInt) * 2 < _; omega)
    · intro m x1 x2 x3 x4 x5 x6 x7 x8 s0 w f j1 j2 hn
      refine g_X11_sheet_103  ?_
      refine (s_X8_putSkill w SS_21).to ?_
      rintro _ m1 ⟨w_m1, g1, rfl⟩
      have f_m1 : Fx (RS [4, 53]) m0 m1 := f.tr g1 (RS_sub rfl)
      refine ⟨rfl, ?_⟩
      have t2 := ti_addc (x := x8) (y := (1 : Int32)) (c := 1) rfl (by omega)
      exact ih.2.1 _ _ _ _ _ _ _ _ _ w_m1 f_m1 (by show (0 : Int) ≤ ((x8 + (1 : Int32))).toInt; omega) (by show ((x8 + (1 : Int32))).toInt ≤ (8 : Int); omega) (by show (8 - ((x8 + (1 : Int32))).toInt) * 2 + 1 < _; omega)
set_option maxHeartbeats 4000000 in
theorem s_X11_sheet {ad : Nat → Nat} {d : Nat} {m : Wm} {x1 x2 x3 x4 x5 : Int32} (w : WT m) : Ct ad μX11_sheet (d + 1) [.ref (ad 0), .int x1, .int x2, .int x3, .int x4, .int x5] m (fun r m' => WT m' ∧ Fx (RS [4, 53]) m m' ∧ ∃ v : Int32, r = some (.int v)) := by
  have f : Fx (RS [4, 53]) m m := Fx.rf
  refine v_X11_sheet  ?_
  refine (s_X1_knows w).to ?_
  rintro _ m1 ⟨w_m1, g1, v2, rfl, p2, p3⟩
  have f_m1 : Fx (RS [4, 53]) m m1 := f.tr g1 (RS_sub rfl)
  refine ⟨v2, rfl, ?_⟩
  refine ⟨?_, ?_⟩
  · intro c4
    have k5 := y_eqr (n := 0) rfl c4
    exact ⟨w_m1, f_m1, _, rfl⟩
  · intro c6
    have k7 := y_ner (n := 0) rfl c6
    refine ⟨?_, ?_⟩
    · intro c8
      have k9 := y_ltr (n := 0) rfl c8
      exact ⟨w_m1, f_m1, _, rfl⟩
    · intro c10
      have k11 := y_nltr (n := 0) rfl c10
      refine ⟨?_, ?_⟩
      · intro c12
        have k13 := y_ltl (n := 3) rfl c12
        exact ⟨w_m1, f_m1, _, rfl⟩
      · intro c14
        have k15 := y_nltl (n := 3) rfl c14
        refine ⟨?_, ?_⟩
        · intro c16
          have k17 := y_ler (n := 8) rfl c16
          refine ⟨?_, ?_⟩
          · intro c18
            have k19 := y_ner (n := 3) rfl c18
            exact (l_X11_sheet (m0 := m) 1000000).1 _ _ _ _ _ _ _ w_m1 f_m1 (by show 0 * (x1).toInt + 1000 < _; omega)
          · intro c20
            have k21 := y_eqr (n := 3) rfl c20
            exact (l_X11_sheet (m0 := m) 1000000).1 _ _ _ _ _ _ _ w_m1 f_m1 (by show 0 * (x1).toInt + 1000 < _; omega)
        · intro c22
          have k23 := y_nler (n := 8) rfl c22
          exact ⟨w_m1, f_m1, _, rfl⟩
set_option maxHeartbeats 4000000 in
theorem s_X11_ill {ad : Nat → Nat} {d : Nat} {m : Wm} {x1 x2 : Int32} (w : WT m) : Ct ad μX11_ill (d + 1) [.ref (ad 0), .int x1, .int x2] m (fun r m' => WT m' ∧ Fx (RS [42]) m m' ∧ ∃ v : Int32, r = some (.int v) ∧ (0 : Int) ≤ v.toInt ∧ v.toInt ≤ 1 ∧ ((v.toInt = 0 ∧ (x1.toInt < 0 ∨ (m.1 3 3).toInt ≤ x1.toInt)) ∨ (v.toInt = 1 ∧ 0 ≤ x1.toInt ∧ x1.toInt < (m.1 3 3).toInt))) := by
  have f : Fx (RS [42]) m m := Fx.rf
  refine v_X11_ill  ?_
  refine (s_X1_has w).to ?_
  rintro _ m1 ⟨w_m1, g1, v2, rfl, p3, p4, p2⟩
  have f_m1 : Fx (RS [42]) m m1 := f.tr g1 (RS_sub rfl)
  have p5 : (v2.toInt = 0 ∧ ((x1).toInt < 0 ∨ ((m.1 3 3)).toInt ≤ (x1).toInt)) ∨ (v2.toInt = 1 ∧ 0 ≤ (x1).toInt ∧ (x1).toInt < ((m.1 3 3)).toInt ∧ (x1).toInt ≤ 7) := p2
  clear p2
  have e6 : (m1.1 3 3).toInt = ((m.1 3 3)).toInt := congrArg _ (g1.at (a := 3) (k := 3) (by decide))
  refine ⟨v2, rfl, ?_⟩
  refine ⟨?_, ?_⟩
  · intro c7
    have k8 := y_ner (n := 0) rfl c7
    refine ⟨?_, ?_⟩
    · intro c9
      have k10 := y_eqr (n := 0) rfl c9
      have w11 : WT (uI m1 3 5 ((m1.1 3 5) &&& (((1 : Int32) <<< (x1 &&& 31)) ^^^ (-1 : Int32)))) := w_m1.n rfl
      have f11 : Fx (RS [42]) m (uI m1 3 5 ((m1.1 3 5) &&& (((1 : Int32) <<< (x1 &&& 31)) ^^^ (-1 : Int32)))) := f_m1.i rfl
      exact ⟨w11, f11, _, rfl, (by show (0 : Int) ≤ (1 : Int); omega), (by show (1 : Int) ≤ (1 : Int); omega), (by show ((1 : Int) = 0 ∧ (x1.toInt < 0 ∨ (m.1 3 3).toInt ≤ x1.toInt)) ∨ ((1 : Int) = 1 ∧ 0 ≤ x1.toInt ∧ x1.toInt < (m.1 3 3).toInt); omega)⟩
    · intro c12
      have k13 := y_ner (n := 0) rfl c12
      have w14 : WT (uI m1 3 5 ((m1.1 3 5) ||| ((1 : Int32) <<< (x1 &&& 31)))) := w_m1.n rfl
      have f14 : Fx (RS [42]) m (uI m1 3 5 ((m1.1 3 5) ||| ((1 : Int32) <<< (x1 &&& 31)))) := f_m1.i rfl
      exact ⟨w14, f14, _, rfl, (by show (0 : Int) ≤ (1 : Int); omega), (by show (1 : Int) ≤ (1 : Int); omega), (by show ((1 : Int) = 0 ∧ (x1.toInt < 0 ∨ (m.1 3 3).toInt ≤ x1.toInt)) ∨ ((1 : Int) = 1 ∧ 0 ≤ x1.toInt ∧ x1.toInt < (m.1 3 3).toInt); omega)⟩
  · intro c15
    have k16 := y_eqr (n := 0) rfl c15
    exact ⟨w_m1, f_m1, _, rfl, (by show (0 : Int) ≤ (0 : Int); omega), (by show (0 : Int) ≤ (1 : Int); omega), (by show ((0 : Int) = 0 ∧ (x1.toInt < 0 ∨ (m.1 3 3).toInt ≤ x1.toInt)) ∨ ((0 : Int) = 1 ∧ 0 ≤ x1.toInt ∧ x1.toInt < (m.1 3 3).toInt); omega)⟩
set_option maxHeartbeats 4000000 in
theorem l_X11_swap {ad : Nat → Nat} {d : Nat} {m0 : Wm}  : ∀ n : Nat, (∀ (m : Wm) (x1 x2 x3 : Int32), WT m → Fx (RS [4, 53]) m0 m → (0 : Int) ≤ x3.toInt → x3.toInt ≤ (4 : Int) → (0 ≤ x1.toInt ∧ x1.toInt < (m0.1 3 3).toInt ∧ 0 ≤ x2.toInt ∧ x2.toInt < (m0.1 3 3).toInt ∧ x1.toInt ≠ x2.toInt) → 4 - x3.toInt < (n : Int) → AW ad E0 μX11_swap (d + 2) (fun r m' => WT m' ∧ Fx (RS [4, 53]) m0 m' ∧ ∃ v : Int32, r = some (.int v) ∧ (0 : Int) ≤ v.toInt ∧ v.toInt ≤ 1 ∧ ((v.toInt = 0 ∧ (x1.toInt < 0 ∨ (m0.1 3 3).toInt ≤ x1.toInt ∨ x2.toInt < 0 ∨ (m0.1 3 3).toInt ≤ x2.toInt ∨ x1.toInt = x2.toInt)) ∨ (v.toInt = 1 ∧ 0 ≤ x1.toInt ∧ x1.toInt < (m0.1 3 3).toInt ∧ 0 ≤ x2.toInt ∧ x2.toInt < (m0.1 3 3).toInt ∧ x1.toInt ≠ x2.toInt))) 16 [(0, .ref (ad 0)), (1, .int x1), (2, .int x2), (3, .int x3)] [] m) := by
  intro n
  induction n with
  | zero =>
    intros
    exfalso
    omega
  | succ n ih =>
    intro m x1 x2 x3 w f j1 j2 j3 hn
    refine g_X11_swap_16  ?_
    refine ⟨?_, ?_⟩
    · intro c1
      have k2 := y_lel (n := 4) rfl c1
      have w3 : WT (uI m 31 1 (0 : Int32)) := w.t rfl (by show (0 : Int) ≤ (0 : Int); omega) (by show (0 : Int) ≤ 20; omega)
      have f3 : Fx (RS [4, 53]) m0 (uI m 31 1 (0 : Int32)) := f.i rfl
      exact ⟨w3, f3, _, rfl, (by show (0 : Int) ≤ (1 : Int); omega), (by show (1 : Int) ≤ (1 : Int); omega), (by show ((1 : Int) = 0 ∧ (x1.toInt < 0 ∨ (m0.1 3 3).toInt ≤ x1.toInt ∨ x2.toInt < 0 ∨ (m0.1 3 3).toInt ≤ x2.toInt ∨ x1.toInt = x2.toInt)) ∨ ((1 : Int) = 1 ∧ 0 ≤ x1.toInt ∧ x1.toInt < (m0.1 3 3).toInt ∧ 0 ≤ x2.toInt ∧ x2.toInt < (m0.1 3 3).toInt ∧ x1.toInt ≠ x2.toInt); omega)⟩
    · intro c4
      have k5 := y_nlel (n := 4) rfl c4
      refine (s_X8_skillOf w SS_21).to ?_
      rintro _ m1 ⟨w_m1, g6, v2, rfl⟩
      have f_m1 : Fx (RS [4, 53]) m0 m1 := f.tr g6 (RS_sub rfl)
      have e7 : (m1.1 3 3).toInt = ((m.1 3 3)).toInt := congrArg _ (g6.at (a := 3) (k := 3) (by decide))
      refine ⟨v2, rfl, ?_⟩
      refine (s_X8_skillOf w_m1 SS_21).to ?_
      rintro _ m3 ⟨w_m3, g8, v4, rfl⟩
      have f_m3 : Fx (RS [4, 53]) m0 m3 := f_m1.tr g8 (RS_sub rfl)
      have e9 : (m3.1 3 3).toInt = ((m1.1 3 3)).toInt := congrArg _ (g8.at (a := 3) (k := 3) (by decide))
      refine ⟨v4, rfl, ?_⟩
      refine (s_X8_putSkill w_m3 SS_21).to ?_
      rintro _ m5 ⟨w_m5, g10, rfl⟩
      have f_m5 : Fx (RS [4, 53]) m0 m5 := f_m3.tr g10 (RS_sub rfl)
      have e11 : (m5.1 3 3).toInt = ((m3.1 3 3)).toInt := congrArg _ (g10.at (a := 3) (k := 3) (by decide))
      refine ⟨rfl, ?_⟩
      refine (s_X8_putSkill w_m5 SS_21).to ?_
      rintro _ m6 ⟨w_m6, g12, rfl⟩
      have f_m6 : Fx (RS [4, 53]) m0 m6 := f_m5.tr g12 (RS_sub rfl)
      have e13 : (m6.1 3 3).toInt = ((m5.1 3 3)).toInt := congrArg _ (g12.at (a := 3) (k := 3) (by decide))
      refine ⟨rfl, ?_⟩
      have t14 := ti_addc (x := x3) (y := (1 : Int32)) (c := 1) rfl (by omega)
      exact ih _ _ _ _ w_m6 f_m6 (by show (0 : Int) ≤ ((x3 + (1 : Int32))).toInt; omega) (by show ((x3 + (1 : Int32))).toInt ≤ (4 : Int); omega) (by show 0 ≤ (x1).toInt ∧ (x1).toInt < (m0.1 3 3).toInt ∧ 0 ≤ (x2).toInt ∧ (x2).toInt < (m0.1 3 3).toInt ∧ (x1).toInt ≠ (x2).toInt; omega) (by show 4 - ((x3 + (1 : Int32))).toInt < _; omega)
set_option maxHeartbeats 4000000 in
theorem s_X11_swap {ad : Nat → Nat} {d : Nat} {m : Wm} {x1 x2 : Int32} (w : WT m) : Ct ad μX11_swap (d + 2) [.ref (ad 0), .int x1, .int x2] m (fun r m' => WT m' ∧ Fx (RS [4, 53]) m m' ∧ ∃ v : Int32, r = some (.int v) ∧ (0 : Int) ≤ v.toInt ∧ v.toInt ≤ 1 ∧ ((v.toInt = 0 ∧ (x1.toInt < 0 ∨ (m.1 3 3).toInt ≤ x1.toInt ∨ x2.toInt < 0 ∨ (m.1 3 3).toInt ≤ x2.toInt ∨ x1.toInt = x2.toInt)) ∨ (v.toInt = 1 ∧ 0 ≤ x1.toInt ∧ x1.toInt < (m.1 3 3).toInt ∧ 0 ≤ x2.toInt ∧ x2.toInt < (m.1 3 3).toInt ∧ x1.toInt ≠ x2.toInt))) := by
  have f : Fx (RS [4, 53]) m m := Fx.rf
  refine v_X11_swap  ?_
  refine (s_X1_canMeet w).to ?_
  rintro _ m1 ⟨w_m1, g1, v2, rfl, p3, p4, p2⟩
  have f_m1 : Fx (RS [4, 53]) m m1 := f.tr g1 (RS_sub rfl)
  have p5 : (v2.toInt = 0 ∧ ((x1).toInt < 0 ∨ ((m.1 3 3)).toInt ≤ (x1).toInt ∨ (x2).toInt < 0 ∨ ((m.1 3 3)).toInt ≤ (x2).toInt ∨ (x1).toInt = (x2).toInt)) ∨ (v2.toInt = 1 ∧ 0 ≤ (x1).toInt ∧ (x1).toInt < ((m.1 3 3)).toInt ∧ (x1).toInt ≤ 7 ∧ 0 ≤ (x2).toInt ∧ (x2).toInt < ((m.1 3 3)).toInt ∧ (x2).toInt ≤ 7 ∧ (x1).toInt ≠ (x2).toInt) := p2
  clear p2
  have e6 : (m1.1 3 3).toInt = ((m.1 3 3)).toInt := congrArg _ (g1.at (a := 3) (k := 3) (by decide))
  refine ⟨v2, rfl, ?_⟩
  refine ⟨?_, ?_⟩
  · intro c7
    have k8 := y_ner (n := 0) rfl c7
    exact (l_X11_swap (m0 := m) 1000000) _ _ _ _ w_m1 f_m1 (by show (0 : Int) ≤ (0 : Int); omega) (by show (0 : Int) ≤ (4 : Int); omega) (by show 0 ≤ (x1).toInt ∧ (x1).toInt < (m.1 3 3).toInt ∧ 0 ≤ (x2).toInt ∧ (x2).toInt < (m.1 3 3).toInt ∧ (x1).toInt ≠ (x2).toInt; omega) (by show 4 - (0 : Int) < _; omega)
  · intro c9
    have k10 := y_eqr (n := 0) rfl c9
    exact ⟨w_m1, f_m1, _, rfl, (by show (0 : Int) ≤ (0 : Int); omega), (by show (0 : Int) ≤ (1 : Int); omega), (by show ((0 : Int) = 0 ∧ (x1.toInt < 0 ∨ (m.1 3 3).toInt ≤ x1.toInt ∨ x2.toInt < 0 ∨ (m.1 3 3).toInt ≤ x2.toInt ∨ x1.toInt = x2.toInt)) ∨ ((0 : Int) = 1 ∧ 0 ≤ x1.toInt ∧ x1.toInt < (m.1 3 3).toInt ∧ 0 ≤ x2.toInt ∧ x2.toInt < (m.1 3 3).toInt ∧ x1.toInt ≠ x2.toInt); omega)⟩
set_option maxHeartbeats 4000000 in
theorem s_X11_circle {ad : Nat → Nat} {d : Nat} {m : Wm} (w : WT m) : Ct ad μX11_circle (d + 2) [.ref (ad 0)] m (fun r m' => WT m' ∧ Fx (RS [7, 44]) m m' ∧ ∃ v : Int32, r = some (.int v)) := by
  have f : Fx (RS [7, 44]) m m := Fx.rf
  refine v_X11_circle  ?_
  refine ⟨?_, ?_⟩
  · intro c1
    have r2 := w.at (a := 3) (k := 3) rfl
    have k3 := y_lel (n := 2) rfl c1
    obtain ⟨r1, e4, q5⟩ := w.r09
    refine ⟨r1, e4, Pl_of q5, ?_⟩
    refine (s_X3_fillEachWithEach w q5 (by show (0 : Int) ≤ ((m.1 3 3)).toInt; omega) (by show ((m.1 3 3)).toInt ≤ (8 : Int); omega)).to ?_
    rintro _ m2 ⟨w_m2, g6, rfl⟩
    have f_m2 : Fx (RS [7, 44]) m m2 := f.tr g6 (RS_sub rfl)
    refine ⟨rfl, ?_⟩
    obtain ⟨r3, e7, q8⟩ := w_m2.r09
    refine ⟨r3, e7, Pl_of q8, ?_⟩
    have w9 : WT (uI m2 0 11 (0 : Int32)) := w_m2.n rfl
    have f9 : Fx (RS [7, 44]) m (uI m2 0 11 (0 : Int32)) := f_m2.i rfl
    have r10 := w9.pl (k := 5) q8 rfl rfl
    exact ⟨w9, f9, _, rfl⟩
  · intro c11
    have r12 := w.at (a := 3) (k := 3) rfl
    have k13 := y_nlel (n := 2) rfl c11
    exact ⟨w, f, _, rfl⟩
set_option maxHeartbeats 4000000 in
theorem s_X11_tell {ad : Nat → Nat} {d : Nat} {m : Wm} {y1 : Int64} (w : WT m) : Ct ad μX11_tell d [.ref (ad 0), .long y1] m (fun r m' => WT m' ∧ Fx (RS [9]) m m' ∧ r = none) := by
  have f : Fx (RS [9]) m m := Fx.rf
  refine v_X11_tell  ?_
  have w1 : WT (uL m 150 ((0 : Int32).toNatClampNeg) y1) := w.l
  have f1 : Fx (RS [9]) m (uL m 150 ((0 : Int32).toNatClampNeg) y1) := f.l rfl
  have w2 : WT (uI (uL m 150 ((0 : Int32).toNatClampNeg) y1) 0 18 (1 : Int32)) := w1.t rfl (by show (0 : Int) ≤ (1 : Int); omega) (by show (1 : Int) ≤ 10; omega)
  have f2 : Fx (RS [9]) m (uI (uL m 150 ((0 : Int32).toNatClampNeg) y1) 0 18 (1 : Int32)) := f1.i rfl
  exact ⟨w2, f2, rfl⟩
set_option maxHeartbeats 4000000 in
theorem s_X11_tell_ {ad : Nat → Nat} {d : Nat} {m : Wm} {y1 y3 : Int64} (w : WT m) : Ct ad μX11_tell_ d [.ref (ad 0), .long y1, .long y3] m (fun r m' => WT m' ∧ Fx (RS [9]) m m' ∧ r = none) := by
  have f : Fx (RS [9]) m m := Fx.rf
  refine v_X11_tell_  ?_
  have w1 : WT (uL m 150 ((0 : Int32).toNatClampNeg) y1) := w.l
  have f1 : Fx (RS [9]) m (uL m 150 ((0 : Int32).toNatClampNeg) y1) := f.l rfl
  have w2 : WT (uL (uL m 150 ((0 : Int32).toNatClampNeg) y1) 150 ((1 : Int32).toNatClampNeg) y3) := w1.l
  have f2 : Fx (RS [9]) m (uL (uL m 150 ((0 : Int32).toNatClampNeg) y1) 150 ((1 : Int32).toNatClampNeg) y3) := f1.l rfl
  have w3 : WT (uI (uL (uL m 150 ((0 : Int32).toNatClampNeg) y1) 150 ((1 : Int32).toNatClampNeg) y3) 0 18 (2 : Int32)) := w2.t rfl (by show (0 : Int) ≤ (2 : Int); omega) (by show (2 : Int) ≤ 10; omega)
  have f3 : Fx (RS [9]) m (uI (uL (uL m 150 ((0 : Int32).toNatClampNeg) y1) 150 ((1 : Int32).toNatClampNeg) y3) 0 18 (2 : Int32)) := f2.i rfl
  exact ⟨w3, f3, rfl⟩
set_option maxHeartbeats 4000000 in
theorem s_X11_tell__ {ad : Nat → Nat} {d : Nat} {m : Wm} {y1 y3 y5 : Int64} (w : WT m) : Ct ad μX11_tell__ d [.ref (ad 0), .long y1, .long y3, .long y5] m (fun r m' => WT m' ∧ Fx (RS [9]) m m' ∧ r = none) := by
  have f : Fx (RS [9]) m m := Fx.rf
  refine v_X11_tell__  ?_
  have w1 : WT (uL m 150 ((0 : Int32).toNatClampNeg) y1) := w.l
  have f1 : Fx (RS [9]) m (uL m 150 ((0 : Int32).toNatClampNeg) y1) := f.l rfl
  have w2 : WT (uL (uL m 150 ((0 : Int32).toNatClampNeg) y1) 150 ((1 : Int32).toNatClampNeg) y3) := w1.l
  have f2 : Fx (RS [9]) m (uL (uL m 150 ((0 : Int32).toNatClampNeg) y1) 150 ((1 : Int32).toNatClampNeg) y3) := f1.l rfl
  have w3 : WT (uL (uL (uL m 150 ((0 : Int32).toNatClampNeg) y1) 150 ((1 : Int32).toNatClampNeg) y3) 150 ((2 : Int32).toNatClampNeg) y5) := w2.l
  have f3 : Fx (RS [9]) m (uL (uL (uL m 150 ((0 : Int32).toNatClampNeg) y1) 150 ((1 : Int32).toNatClampNeg) y3) 150 ((2 : Int32).toNatClampNeg) y5) := f2.l rfl
  have w4 : WT (uI (uL (uL (uL m 150 ((0 : Int32).toNatClampNeg) y1) 150 ((1 : Int32).toNatClampNeg) y3) 150 ((2 : Int32).toNatClampNeg) y5) 0 18 (3 : Int32)) := w3.t rfl (by show (0 : Int) ≤ (3 : Int); omega) (by show (3 : Int) ≤ 10; omega)
  have f4 : Fx (RS [9]) m (uI (uL (uL (uL m 150 ((0 : Int32).toNatClampNeg) y1) 150 ((1 : Int32).toNatClampNeg) y3) 150 ((2 : Int32).toNatClampNeg) y5) 0 18 (3 : Int32)) := f3.i rfl
  exact ⟨w4, f4, rfl⟩
set_option maxHeartbeats 4000000 in
theorem s_X11_game {ad : Nat → Nat} {d : Nat} {m : Wm} {x1 x2 x3 : Int32} (w : WT m) : Ct ad μX11_game (d + 5) [.ref (ad 0), .int x1, .int x2, .int x3] m (fun r m' => WT m' ∧ Fx (RS [2, 5, 9, 14]) m m' ∧ ∃ v : Int32, r = some (.int v)) := by
  have f : Fx (RS [2, 5, 9, 14]) m m := Fx.rf
  refine v_X11_game  ?_
  refine (s_X1_canMeet w).to ?_
  rintro _ m1 ⟨w_m1, g1, v2, rfl, p3, p4, p2⟩
  have f_m1 : Fx (RS [2, 5, 9, 14]) m m1 := f.tr g1 (RS_sub rfl)
  have p5 : (v2.toInt = 0 ∧ ((x1).toInt < 0 ∨ ((m.1 3 3)).toInt ≤ (x1).toInt ∨ (x2).toInt < 0 ∨ ((m.1 3 3)).toInt ≤ (x2).toInt ∨ (x1).toInt = (x2).toInt)) ∨ (v2.toInt = 1 ∧ 0 ≤ (x1).toInt ∧ (x1).toInt < ((m.1 3 3)).toInt ∧ (x1).toInt ≤ 7 ∧ 0 ≤ (x2).toInt ∧ (x2).toInt < ((m.1 3 3)).toInt ∧ (x2).toInt ≤ 7 ∧ (x1).toInt ≠ (x2).toInt) := p2
  clear p2
  refine ⟨v2, rfl, ?_⟩
  refine ⟨?_, ?_⟩
  · intro c6
    have k7 := y_eqr (n := 0) rfl c6
    exact ⟨w_m1, f_m1, _, rfl⟩
  · intro c8
    have k9 := y_ner (n := 0) rfl c8
    refine ⟨?_, ?_⟩
    · intro c10
      have k11 := y_ltr (n := 0) rfl c10
      exact ⟨w_m1, f_m1, _, rfl⟩
    · intro c12
      have k13 := y_nltr (n := 0) rfl c12
      refine ⟨?_, ?_⟩
      · intro c14
        have k15 := y_ler (n := 3) rfl c14
        refine (s_X8_copy w_m1 SS_26 SS_21).to ?_
        rintro _ m3 ⟨w_m3, g16, rfl⟩
        have f_m3 : Fx (RS [2, 5, 9, 14]) m m3 := f_m1.tr g16 (RS_sub rfl)
        refine ⟨rfl, ?_⟩
        refine (s_X1_result w_m3 SS_26 (by show (0 : Int) ≤ (x1).toInt; omega) (by show (x1).toInt ≤ (7 : Int); omega) (by show (0 : Int) ≤ (x2).toInt; omega) (by show (x2).toInt ≤ (7 : Int); omega)).to ?_
        rintro _ m4 ⟨w_m4, g17, v5, rfl, p18, p19⟩
        have f_m4 : Fx (RS [2, 5, 9, 14]) m m4 := f_m3.tr g17 (RS_sub rfl)
        refine ⟨v5, rfl, ?_⟩
        refine (s_X1_settle w_m4 SS_26 (by show (0 : Int) ≤ (x1).toInt; omega) (by show (x1).toInt ≤ (7 : Int); omega) (by show (0 : Int) ≤ (x2).toInt; omega) (by show (x2).toInt ≤ (7 : Int); omega)).to ?_
        rintro _ m6 ⟨w_m6, g20, rfl⟩
        have f_m6 : Fx (RS [2, 5, 9, 14]) m m6 := f_m4.tr g20 (RS_sub rfl)
        refine ⟨rfl, ?_⟩
        refine (s_X11_tell_ w_m6).to ?_
        rintro _ m7 ⟨w_m7, g21, rfl⟩
        have f_m7 : Fx (RS [2, 5, 9, 14]) m m7 := f_m6.tr g21 (RS_sub rfl)
        refine ⟨rfl, ?_⟩
        exact ⟨w_m7, f_m7, _, rfl⟩
      · intro c22
        have k23 := y_nler (n := 3) rfl c22
        exact ⟨w_m1, f_m1, _, rfl⟩
set_option maxHeartbeats 4000000 in
theorem s_X11_odds {ad : Nat → Nat} {d : Nat} {m : Wm} {x1 x2 : Int32} (w : WT m) : Ct ad μX11_odds (d + 5) [.ref (ad 0), .int x1, .int x2] m (fun r m' => WT m' ∧ Fx (RS [14]) m m' ∧ ∃ v : Int32, r = some (.int v)) := by
  have f : Fx (RS [14]) m m := Fx.rf
  refine v_X11_odds  ?_
  refine (s_X1_canMeet w).to ?_
  rintro _ m1 ⟨w_m1, g1, v2, rfl, p3, p4, p2⟩
  have f_m1 : Fx (RS [14]) m m1 := f.tr g1 (RS_sub rfl)
  have p5 : (v2.toInt = 0 ∧ ((x1).toInt < 0 ∨ ((m.1 3 3)).toInt ≤ (x1).toInt ∨ (x2).toInt < 0 ∨ ((m.1 3 3)).toInt ≤ (x2).toInt ∨ (x1).toInt = (x2).toInt)) ∨ (v2.toInt = 1 ∧ 0 ≤ (x1).toInt ∧ (x1).toInt < ((m.1 3 3)).toInt ∧ (x1).toInt ≤ 7 ∧ 0 ≤ (x2).toInt ∧ (x2).toInt < ((m.1 3 3)).toInt ∧ (x2).toInt ≤ 7 ∧ (x1).toInt ≠ (x2).toInt) := p2
  clear p2
  refine ⟨v2, rfl, ?_⟩
  refine ⟨?_, ?_⟩
  · intro c6
    have k7 := y_eqr (n := 0) rfl c6
    exact ⟨w_m1, f_m1, _, rfl⟩
  · intro c8
    have k9 := y_ner (n := 0) rfl c8
    refine (s_X1_chance w_m1 SS_21 (by show (0 : Int) ≤ (x1).toInt; omega) (by show (x1).toInt ≤ (7 : Int); omega) (by show (0 : Int) ≤ (x2).toInt; omega) (by show (x2).toInt ≤ (7 : Int); omega)).to ?_
    rintro _ m3 ⟨w_m3, g10, v4, rfl, p11, p12⟩
    have f_m3 : Fx (RS [14]) m m3 := f_m1.tr g10 (RS_sub rfl)
    refine ⟨v4, rfl, ?_⟩
    exact ⟨w_m3, f_m3, _, rfl⟩
set_option maxHeartbeats 4000000 in
theorem l_X11_playNow {ad : Nat → Nat} {d : Nat} {m0 : Wm}  : ∀ n : Nat, (∀ (m : Wm) (x1 x2 x3 s0 : Int32), WT m → Fx (RS [2, 4, 6, 14, 53]) m0 m → (0 : Int) ≤ x1.toInt → x1.toInt ≤ (7 : Int) → (0 : Int) ≤ x2.toInt → x2.toInt ≤ (7 : Int) → 0 * x1.toInt + 4 < (n : Int) → AW ad E0 μX11_playNow (d + 6) (fun r m' => WT m' ∧ Fx (RS [2, 4, 6, 14, 53]) m0 m' ∧ ∃ v : Int32, r = some (.int v) ∧ (0 : Int) ≤ v.toInt ∧ v.toInt ≤ 2) 32 [(0, .ref (ad 0)), (1, .int x1), (2, .int x2), (3, .int x3)] [.int s0] m) ∧ (∀ (m : Wm) (x1 x2 x3 s0 : Int32), WT m → Fx (RS [2, 4, 6, 14, 53]) m0 m → (0 : Int) ≤ x1.toInt → x1.toInt ≤ (7 : Int) → (0 : Int) ≤ x2.toInt → x2.toInt ≤ (7 : Int) → (0 : Int) ≤ s0.toInt → s0.toInt ≤ (2 : Int) → 0 * x1.toInt + 3 < (n : Int) → AW ad E0 μX11_playNow (d + 6) (fun r m' => WT m' ∧ Fx (RS [2, 4, 6, 14, 53]) m0 m' ∧ ∃ v : Int32, r = some (.int v) ∧ (0 : Int) ≤ v.toInt ∧ v.toInt ≤ 2) 69 [(0, .ref (ad 0)), (1, .int x1), (2, .int x2), (3, .int x3)] [.int s0] m) ∧ (∀ (m : Wm) (x1 x2 x3 x5 : Int32), WT m → Fx (RS [2, 4, 6, 14, 53]) m0 m → (0 : Int) ≤ x1.toInt → x1.toInt ≤ (7 : Int) → (0 : Int) ≤ x2.toInt → x2.toInt ≤ (7 : Int) → (0 : Int) ≤ x5.toInt → x5.toInt ≤ (2 : Int) → 0 * x1.toInt + 2 < (n : Int) → AW ad E0 μX11_playNow (d + 6) (fun r m' => WT m' ∧ Fx (RS [2, 4, 6, 14, 53]) m0 m' ∧ ∃ v : Int32, r = some (.int v) ∧ (0 : Int) ≤ v.toInt ∧ v.toInt ≤ 2) 90 [(0, .ref (ad 0)), (1, .int x1), (2, .int x2), (3, .int x3), (5, .int x5)] [] m) ∧ (∀ (m : Wm) (x1 x2 x5 : Int32), WT m → Fx (RS [2, 4, 6, 14, 53]) m0 m → (0 : Int) ≤ x1.toInt → x1.toInt ≤ (7 : Int) → (0 : Int) ≤ x2.toInt → x2.toInt ≤ (7 : Int) → (0 : Int) ≤ x5.toInt → x5.toInt ≤ (2 : Int) → 0 * x1.toInt + 1 < (n : Int) → AW ad E0 μX11_playNow (d + 6) (fun r m' => WT m' ∧ Fx (RS [2, 4, 6, 14, 53]) m0 m' ∧ ∃ v : Int32, r = some (.int v) ∧ (0 : Int) ≤ v.toInt ∧ v.toInt ≤ 2) 109 [(0, .ref (ad 0)), (1, .int x1), (2, .int x2), (5, .int x5)] [] m) := by
  intro n
  induction n with
  | zero =>
    refine ⟨?_, ?_, ?_, ?_⟩ <;> intros <;> exfalso <;> omega
  | succ n ih =>
    refine ⟨?_, ?_, ?_, ?_⟩
    · intro m x1 x2 x3 s0 w f j1 j2 j3 j4 hn
      refine g_X11_playNow_32  ?_
      refine ⟨?_, ?_⟩
      · intro c1
        have k2 := y_eqr (n := 0) rfl c1
        refine (s_X1_result w SS_21 (by show (0 : Int) ≤ (x1).toInt; omega) (by show (x1).toInt ≤ (7 : Int); omega) (by show (0 : Int) ≤ (x2).toInt; omega) (by show (x2).toInt ≤ (7 : Int); omega)).to ?_
        rintro _ m1 ⟨w_m1, g3, v2, rfl, p4, p5⟩
        have f_m1 : Fx (RS [2, 4, 6, 14, 53]) m0 m1 := f.tr g3 (RS_sub rfl)
        refine ⟨v2, rfl, ?_⟩
        exact ih.2.1 _ _ _ _ _ w_m1 f_m1 (by show (0 : Int) ≤ (x1).toInt; omega) (by show (x1).toInt ≤ (7 : Int); omega) (by show (0 : Int) ≤ (x2).toInt; omega) (by show (x2).toInt ≤ (7 : Int); omega) (by show (0 : Int) ≤ (v2).toInt; omega) (by show (v2).toInt ≤ (2 : Int); omega) (by show 0 * (x1).toInt + 3 < _; omega)
      · intro c6
        have k7 := y_ner (n := 0) rfl c6
        refine (s_X1_drawnResult w SS_21 (by show (0 : Int) ≤ (x1).toInt; omega) (by show (x1).toInt ≤ (7 : Int); omega) (by show (0 : Int) ≤ (x2).toInt; omega) (by show (x2).toInt ≤ (7 : Int); omega)).to ?_
        rintro _ m3 ⟨w_m3, g8, v4, rfl, p9, p10⟩
        have f_m3 : Fx (RS [2, 4, 6, 14, 53]) m0 m3 := f.tr g8 (RS_sub rfl)
        refine ⟨v4, rfl, ?_⟩
        exact ih.2.1 _ _ _ _ _ w_m3 f_m3 (by show (0 : Int) ≤ (x1).toInt; omega) (by show (x1).toInt ≤ (7 : Int); omega) (by show (0 : Int) ≤ (x2).toInt; omega) (by show (x2).toInt ≤ (7 : Int); omega) (by show (0 : Int) ≤ (v4).toInt; omega) (by show (v4).toInt ≤ (2 : Int); omega) (by show 0 * (x1).toInt + 3 < _; omega)
    · intro m x1 x2 x3 s0 w f j1 j2 j3 j4 j5 j6 hn
      refine g_X11_playNow_69  ?_
      refine ⟨?_, ?_⟩
      · intro c1
        have t2 := t_and1 x3
        have k3 := y_eqr (n := 0) rfl c1
        exact ih.2.2.1 _ _ _ _ _ w f (by show (0 : Int) ≤ (x1).toInt; omega) (by show (x1).toInt ≤ (7 : Int); omega) (by show (0 : Int) ≤ (x2).toInt; omega) (by show (x2).toInt ≤ (7 : Int); omega) (by show (0 : Int) ≤ (s0).toInt; omega) (by show (s0).toInt ≤ (2 : Int); omega) (by show 0 * (x1).toInt + 2 < _; omega)
      · intro c4
        have t5 := t_and1 x3
        have k6 := y_ner (n := 0) rfl c4
        refine ⟨?_, ?_⟩
        · exact vpi (by omega) (by omega)
        · refine ⟨?_, ?_⟩
          · exact vpi (by omega) (by omega)
          · have w7 : WT (uI m 25 x1.toNatClampNeg ((m.1 25 x1.toNatClampNeg) + (1 : Int32))) := w.n rfl
            have f7 : Fx (RS [2, 4, 6, 14, 53]) m0 (uI m 25 x1.toNatClampNeg ((m.1 25 x1.toNatClampNeg) + (1 : Int32))) := f.i rfl
            exact ih.2.2.1 _ _ _ _ _ w7 f7 (by show (0 : Int) ≤ (x1).toInt; omega) (by show (x1).toInt ≤ (7 : Int); omega) (by show (0 : Int) ≤ (x2).toInt; omega) (by show (x2).toInt ≤ (7 : Int); omega) (by show (0 : Int) ≤ (s0).toInt; omega) (by show (s0).toInt ≤ (2 : Int); omega) (by show 0 * (x1).toInt + 2 < _; omega)
    · intro m x1 x2 x3 x5 w f j1 j2 j3 j4 j5 j6 hn
      refine g_X11_playNow_90  ?_
      refine ⟨?_, ?_⟩
      · intro c1
        have k2 := y_eqr (n := 0) rfl c1
        exact ih.2.2.2 _ _ _ _ w f (by show (0 : Int) ≤ (x1).toInt; omega) (by show (x1).toInt ≤ (7 : Int); omega) (by show (0 : Int) ≤ (x2).toInt; omega) (by show (x2).toInt ≤ (7 : Int); omega) (by show (0 : Int) ≤ (x5).toInt; omega) (by show (x5).toInt ≤ (2 : Int); omega) (by show 0 * (x1).toInt + 1 < _; omega)
      · intro c3
        have k4 := y_ner (n := 0) rfl c3
        refine ⟨?_, ?_⟩
        · exact vpi (by omega) (by omega)
        · refine ⟨?_, ?_⟩
          · exact vpi (by omega) (by omega)
          · have w5 : WT (uI m 25 x2.toNatClampNeg ((m.1 25 x2.toNatClampNeg) + (1 : Int32))) := w.n rfl
            have f5 : Fx (RS [2, 4, 6, 14, 53]) m0 (uI m 25 x2.toNatClampNeg ((m.1 25 x2.toNatClampNeg) + (1 : Int32))) := f.i rfl
            exact ih.2.2.2 _ _ _ _ w5 f5 (by show (0 : Int) ≤ (x1).toInt; omega) (by show (x1).toInt ≤ (7 : Int); omega) (by show (0 : Int) ≤ (x2).toInt; omega) (by show (x2).toInt ≤ (7 : Int); omega) (by show (0 : Int) ≤ (x5).toInt; omega) (by show (x5).toInt ≤ (2 : Int); omega) (by show 0 * (x1).toInt + 1 < _; omega)
    · intro m x1 x2 x5 w f j1 j2 j3 j4 j5 j6 hn
      refine g_X11_playNow_109  ?_
      refine (s_X1_settle w SS_21 (by show (0 : Int) ≤ (x1).toInt; omega) (by show (x1).toInt ≤ (7 : Int); omega) (by show (0 : Int) ≤ (x2).toInt; omega) (by show (x2).toInt ≤ (7 : Int); omega)).to ?_
      rintro _ m1 ⟨w_m1, g1, rfl⟩
      have f_m1 : Fx (RS [2, 4, 6, 14, 53]) m0 m1 := f.tr g1 (RS_sub rfl)
      refine ⟨rfl, ?_⟩
      exact ⟨w_m1, f_m1, _, rfl, (by show (0 : Int) ≤ (x5).toInt; omega), (by show (x5).toInt ≤ (2 : Int); omega)⟩
set_option maxHeartbeats 4000000 in
theorem s_X11_playNow {ad : Nat → Nat} {d : Nat} {m : Wm} {x1 x2 x3 : Int32} (w : WT m) (i1 : (0 : Int) ≤ x1.toInt) (i2 : x1.toInt ≤ (7 : Int)) (i3 : (0 : Int) ≤ x2.toInt) (i4 : x2.toInt ≤ (7 : Int)) : Ct ad μX11_playNow (d + 6) [.ref (ad 0), .int x1, .int x2, .int x3] m (fun r m' => WT m' ∧ Fx (RS [2, 4, 6, 14, 53]) m m' ∧ ∃ v : Int32, r = some (.int v) ∧ (0 : Int) ≤ v.toInt ∧ v.toInt ≤ 2) := by
  have f : Fx (RS [2, 4, 6, 14, 53]) m m := Fx.rf
  refine v_X11_playNow  ?_
  refine (s_X2_save w).to ?_
  rintro _ m1 ⟨w_m1, g1, rfl⟩
  have f_m1 : Fx (RS [2, 4, 6, 14, 53]) m m1 := f.tr g1 (RS_sub rfl)
  refine ⟨rfl, ?_⟩
  refine ⟨?_, ?_⟩
  · intro c2
    have k3 := y_ler (n := 0) rfl c2
    exact (l_X11_playNow (m0 := m) 1000000).1 _ _ _ _ _ w_m1 f_m1 (by show (0 : Int) ≤ (x1).toInt; omega) (by show (x1).toInt ≤ (7 : Int); omega) (by show (0 : Int) ≤ (x2).toInt; omega) (by show (x2).toInt ≤ (7 : Int); omega) (by show 0 * (x1).toInt + 4 < _; omega)
  · intro c4
    have k5 := y_nler (n := 0) rfl c4
    refine ⟨?_, ?_⟩
    · intro c6
      have k7 := y_ner (n := 0) rfl c6
      exact (l_X11_playNow (m0 := m) 1000000).1 _ _ _ _ _ w_m1 f_m1 (by show (0 : Int) ≤ (x1).toInt; omega) (by show (x1).toInt ≤ (7 : Int); omega) (by show (0 : Int) ≤ (x2).toInt; omega) (by show (x2).toInt ≤ (7 : Int); omega) (by show 0 * (x1).toInt + 4 < _; omega)
    · intro c8
      have k9 := y_eqr (n := 0) rfl c8
      exact (l_X11_playNow (m0 := m) 1000000).1 _ _ _ _ _ w_m1 f_m1 (by show (0 : Int) ≤ (x1).toInt; omega) (by show (x1).toInt ≤ (7 : Int); omega) (by show (0 : Int) ≤ (x2).toInt; omega) (by show (x2).toInt ≤ (7 : Int); omega) (by show 0 * (x1).toInt + 4 < _; omega)
set_option maxHeartbeats 4000000 in
theorem s_X11_play {ad : Nat → Nat} {d : Nat} {m : Wm} {x1 x2 x3 : Int32} (w : WT m) : Ct ad μX11_play (d + 7) [.ref (ad 0), .int x1, .int x2, .int x3] m (fun r m' => WT m' ∧ Fx (RS [2, 4, 6, 9, 14, 53]) m m' ∧ ∃ v : Int32, r = some (.int v)) := by
  have f : Fx (RS [2, 4, 6, 9, 14, 53]) m m := Fx.rf
  refine v_X11_play  ?_
  refine (s_X1_canMeet w).to ?_
  rintro _ m1 ⟨w_m1, g1, v2, rfl, p3, p4, p2⟩
  have f_m1 : Fx (RS [2, 4, 6, 9, 14, 53]) m m1 := f.tr g1 (RS_sub rfl)
  have p5 : (v2.toInt = 0 ∧ ((x1).toInt < 0 ∨ ((m.1 3 3)).toInt ≤ (x1).toInt ∨ (x2).toInt < 0 ∨ ((m.1 3 3)).toInt ≤ (x2).toInt ∨ (x1).toInt = (x2).toInt)) ∨ (v2.toInt = 1 ∧ 0 ≤ (x1).toInt ∧ (x1).toInt < ((m.1 3 3)).toInt ∧ (x1).toInt ≤ 7 ∧ 0 ≤ (x2).toInt ∧ (x2).toInt < ((m.1 3 3)).toInt ∧ (x2).toInt ≤ 7 ∧ (x1).toInt ≠ (x2).toInt) := p2
  clear p2
  refine ⟨v2, rfl, ?_⟩
  refine ⟨?_, ?_⟩
  · intro c6
    have k7 := y_eqr (n := 0) rfl c6
    exact ⟨w_m1, f_m1, _, rfl⟩
  · intro c8
    have k9 := y_ner (n := 0) rfl c8
    refine ⟨?_, ?_⟩
    · intro c10
      have k11 := y_ltr (n := 0) rfl c10
      exact ⟨w_m1, f_m1, _, rfl⟩
    · intro c12
      have k13 := y_nltr (n := 0) rfl c12
      refine ⟨?_, ?_⟩
      · intro c14
        have k15 := y_ler (n := 3) rfl c14
        refine (s_X11_playNow w_m1 (by show (0 : Int) ≤ (x1).toInt; omega) (by show (x1).toInt ≤ (7 : Int); omega) (by show (0 : Int) ≤ (x2).toInt; omega) (by show (x2).toInt ≤ (7 : Int); omega)).to ?_
        rintro _ m3 ⟨w_m3, g16, v4, rfl, p17, p18⟩
        have f_m3 : Fx (RS [2, 4, 6, 9, 14, 53]) m m3 := f_m1.tr g16 (RS_sub rfl)
        refine ⟨v4, rfl, ?_⟩
        refine ⟨?_, ?_⟩
        · exact vpi (by omega) (by omega)
        · refine ⟨?_, ?_⟩
          · exact vpi (by omega) (by omega)
          · refine (s_X11_tell_ w_m3).to ?_
            rintro _ m5 ⟨w_m5, g19, rfl⟩
            have f_m5 : Fx (RS [2, 4, 6, 9, 14, 53]) m m5 := f_m3.tr g19 (RS_sub rfl)
            refine ⟨rfl, ?_⟩
            exact ⟨w_m5, f_m5, _, rfl⟩
      · intro c20
        have k21 := y_nler (n := 3) rfl c20
        exact ⟨w_m1, f_m1, _, rfl⟩
set_option maxHeartbeats 4000000 in
theorem s_X11_undo {ad : Nat → Nat} {d : Nat} {m : Wm} (w : WT m) : Ct ad μX11_undo (d + 3) [.ref (ad 0)] m (fun r m' => WT m' ∧ Fx (RS [4, 53]) m m' ∧ ∃ v : Int32, r = some (.int v)) := by
  have f : Fx (RS [4, 53]) m m := Fx.rf
  refine v_X11_undo  ?_
  refine (s_X2_takeBack w).to ?_
  rintro _ m1 ⟨w_m1, g1, v2, rfl, p2, p3⟩
  have f_m1 : Fx (RS [4, 53]) m m1 := f.tr g1 (RS_sub rfl)
  refine ⟨v2, rfl, ?_⟩
  refine ⟨?_, ?_⟩
  · intro c4
    have k5 := y_eqr (n := 0) rfl c4
    exact ⟨w_m1, f_m1, _, rfl⟩
  · intro c6
    have k7 := y_ner (n := 0) rfl c6
    have r8 := w_m1.at (a := 31) (k := 1) rfl
    exact ⟨w_m1, f_m1, _, rfl⟩
set_option maxHeartbeats 4000000 in
theorem s_X11_playTold {ad : Nat → Nat} {d : Nat} {m : Wm} {x1 : Int32} (w : WT m) : Ct ad μX11_playTold (d + 5) [.ref (ad 0), .int x1] m (fun r m' => WT m' ∧ Fx (RS [2, 5, 14]) m m' ∧ ∃ v : Int32, r = some (.int v) ∧ (0 : Int) ≤ v.toInt ∧ v.toInt ≤ 1) := by
  have f : Fx (RS [2, 5, 14]) m m := Fx.rf
  refine v_X11_playTold  ?_
  refine ⟨?_, ?_⟩
  · intro c1
    have k2 := y_ltl (n := 2) rfl c1
    exact ⟨w, f, _, rfl, (by show (0 : Int) ≤ (0 : Int); omega), (by show (0 : Int) ≤ (1 : Int); omega)⟩
  · intro c3
    have k4 := y_nltl (n := 2) rfl c3
    refine ⟨?_, ?_⟩
    · intro c5
      have k6 := z_le c5
      exact ⟨w, f, _, rfl, (by show (0 : Int) ≤ (0 : Int); omega), (by show (0 : Int) ≤ (1 : Int); omega)⟩
    · intro c7
      have k8 := z_nle c7
      refine (s_X1_canMeet w).to ?_
      rintro _ m1 ⟨w_m1, g9, v2, rfl, p11, p12, p10⟩
      have f_m1 : Fx (RS [2, 5, 14]) m m1 := f.tr g9 (RS_sub rfl)
      have p13 : (v2.toInt = 0 ∧ ((((x1 / (10 : Int32)) - (((x1 / (10 : Int32)) / (10 : Int32)) * (10 : Int32)))).toInt < 0 ∨ ((m.1 3 3)).toInt ≤ (((x1 / (10 : Int32)) - (((x1 / (10 : Int32)) / (10 : Int32)) * (10 : Int32)))).toInt ∨ ((x1 - ((x1 / (10 : Int32)) * (10 : Int32)))).toInt < 0 ∨ ((m.1 3 3)).toInt ≤ ((x1 - ((x1 / (10 : Int32)) * (10 : Int32)))).toInt ∨ (((x1 / (10 : Int32)) - (((x1 / (10 : Int32)) / (10 : Int32)) * (10 : Int32)))).toInt = ((x1 - ((x1 / (10 : Int32)) * (10 : Int32)))).toInt)) ∨ (v2.toInt = 1 ∧ 0 ≤ (((x1 / (10 : Int32)) - (((x1 / (10 : Int32)) / (10 : Int32)) * (10 : Int32)))).toInt ∧ (((x1 / (10 : Int32)) - (((x1 / (10 : Int32)) / (10 : Int32)) * (10 : Int32)))).toInt < ((m.1 3 3)).toInt ∧ (((x1 / (10 : Int32)) - (((x1 / (10 : Int32)) / (10 : Int32)) * (10 : Int32)))).toInt ≤ 7 ∧ 0 ≤ ((x1 - ((x1 / (10 : Int32)) * (10 : Int32)))).toInt ∧ ((x1 - ((x1 / (10 : Int32)) * (10 : Int32)))).toInt < ((m.1 3 3)).toInt ∧ ((x1 - ((x1 / (10 : Int32)) * (10 : Int32)))).toInt ≤ 7 ∧ (((x1 / (10 : Int32)) - (((x1 / (10 : Int32)) / (10 : Int32)) * (10 : Int32)))).toInt ≠ ((x1 - ((x1 / (10 : Int32)) * (10 : Int32)))).toInt) := p10
      clear p10
      refine ⟨v2, rfl, ?_⟩
      refine ⟨?_, ?_⟩
      · intro c14
        have k15 := y_ner (n := 0) rfl c14
        refine (s_X1_result w_m1 SS_26 (by show (0 : Int) ≤ (((x1 / (10 : Int32)) - (((x1 / (10 : Int32)) / (10 : Int32)) * (10 : Int32)))).toInt; omega) (by show (((x1 / (10 : Int32)) - (((x1 / (10 : Int32)) / (10 : Int32)) * (10 : Int32)))).toInt ≤ (7 : Int); omega) (by show (0 : Int) ≤ ((x1 - ((x1 / (10 : Int32)) * (10 : Int32)))).toInt; omega) (by show ((x1 - ((x1 / (10 : Int32)) * (10 : Int32)))).toInt ≤ (7 : Int); omega)).to ?_
        rintro _ m3 ⟨w_m3, g16, v4, rfl, p17, p18⟩
        have f_m3 : Fx (RS [2, 5, 14]) m m3 := f_m1.tr g16 (RS_sub rfl)
        refine ⟨v4, rfl, ?_⟩
        refine (s_X1_settle w_m3 SS_26 (by show (0 : Int) ≤ (((x1 / (10 : Int32)) - (((x1 / (10 : Int32)) / (10 : Int32)) * (10 : Int32)))).toInt; omega) (by show (((x1 / (10 : Int32)) - (((x1 / (10 : Int32)) / (10 : Int32)) * (10 : Int32)))).toInt ≤ (7 : Int); omega) (by show (0 : Int) ≤ ((x1 - ((x1 / (10 : Int32)) * (10 : Int32)))).toInt; omega) (by show ((x1 - ((x1 / (10 : Int32)) * (10 : Int32)))).toInt ≤ (7 : Int); omega)).to ?_
        rintro _ m5 ⟨w_m5, g19, rfl⟩
        have f_m5 : Fx (RS [2, 5, 14]) m m5 := f_m3.tr g19 (RS_sub rfl)
        refine ⟨rfl, ?_⟩
        exact ⟨w_m5, f_m5, _, rfl, (by show (0 : Int) ≤ (1 : Int); omega), (by show (1 : Int) ≤ (1 : Int); omega)⟩
      · intro c20
        have k21 := y_eqr (n := 0) rfl c20
        exact ⟨w_m1, f_m1, _, rfl, (by show (0 : Int) ≤ (0 : Int); omega), (by show (0 : Int) ≤ (1 : Int); omega)⟩
set_option maxHeartbeats 4000000 in
theorem l_X11_judge {ad : Nat → Nat} {d : Nat} {m0 : Wm}  : ∀ n : Nat, (∀ (m : Wm) (x1 x2 x3 x4 : Int32), WT m → Fx (RS [2, 5, 9, 14]) m0 m → (0 : Int) ≤ x1.toInt → x1.toInt ≤ (3 : Int) → (0 : Int) ≤ x4.toInt → x4.toInt ≤ (3 : Int) → 4 - x4.toInt < (n : Int) → AW ad E0 μX11_judge (d + 6) (fun r m' => WT m' ∧ Fx (RS [2, 5, 9, 14]) m0 m' ∧ ∃ v : Int32, r = some (.int v)) 28 [(0, .ref (ad 0)), (1, .int x1), (2, .int x2), (3, .int x3), (4, .int x4)] [] m) ∧ (∀ (m : Wm) (x3 : Int32), WT m → Fx (RS [2, 5, 9, 14]) m0 m → 0 * x3.toInt < (n : Int) → AW ad E0 μX11_judge (d + 6) (fun r m' => WT m' ∧ Fx (RS [2, 5, 9, 14]) m0 m' ∧ ∃ v : Int32, r = some (.int v)) 67 [(0, .ref (ad 0)), (3, .int x3)] [] m) := by
  intro n
  induction n with
  | zero =>
    refine ⟨?_, ?_⟩ <;> intros <;> exfalso <;> omega
  | succ n ih =>
    refine ⟨?_, ?_⟩
    · intro m x1 x2 x3 x4 w f j1 j2 j3 j4 hn
      refine g_X11_judge_28  ?_
      refine ⟨?_, ?_⟩
      · intro c1
        have k2 := z_le c1
        exact ih.2 _ _ w f (by show 0 * (x3).toInt < _; omega)
      · intro c3
        have k4 := z_nle c3
        refine ⟨?_, ?_⟩
        · intro c5
          have k6 := y_ner (n := -2) rfl c5
          exact ih.2 _ _ w f (by show 0 * (x3).toInt < _; omega)
        · intro c7
          have k8 := y_eqr (n := -2) rfl c7
          refine (s_X11_playTold w).to ?_
          rintro _ m1 ⟨w_m1, g9, v2, rfl, p10, p11⟩
          have f_m1 : Fx (RS [2, 5, 9, 14]) m0 m1 := f.tr g9 (RS_sub rfl)
          refine ⟨v2, rfl, ?_⟩
          refine ⟨?_, ?_⟩
          · intro c12
            have k13 := y_ner (n := 0) rfl c12
            have t14 := ti_addc (x := x4) (y := (1 : Int32)) (c := 1) rfl (by omega)
            exact ih.1 _ _ _ _ _ w_m1 f_m1 (by show (0 : Int) ≤ (x1).toInt; omega) (by show (x1).toInt ≤ (3 : Int); omega) (by show (0 : Int) ≤ ((x4 + (1 : Int32))).toInt; omega) (by show ((x4 + (1 : Int32))).toInt ≤ (3 : Int); omega) (by show 4 - ((x4 + (1 : Int32))).toInt < _; omega)
          · intro c15
            have k16 := y_eqr (n := 0) rfl c15
            have t17 := ti_addc (x := x4) (y := (1 : Int32)) (c := 1) rfl (by omega)
            exact ih.1 _ _ _ _ _ w_m1 f_m1 (by show (0 : Int) ≤ (x1).toInt; omega) (by show (x1).toInt ≤ (3 : Int); omega) (by show (0 : Int) ≤ ((x4 + (1 : Int32))).toInt; omega) (by show ((x4 + (1 : Int32))).toInt ≤ (3 : Int); omega) (by show 4 - ((x4 + (1 : Int32))).toInt < _; omega)
    · intro m x3 w f  hn
      refine g_X11_judge_67  ?_
      refine (s_X1_total w SS_26).to ?_
      rintro _ m1 ⟨w_m1, g1, v2, rfl⟩
      have f_m1 : Fx (RS [2, 5, 9, 14]) m0 m1 := f.tr g1 (RS_sub rfl)
      refine ⟨v2, rfl, ?_⟩
      refine (s_X1_total w_m1 SS_21).to ?_
      rintro _ m3 ⟨w_m3, g2, v4, rfl⟩
      have f_m3 : Fx (RS [2, 5, 9, 14]) m0 m3 := f_m1.tr g2 (RS_sub rfl)
      refine ⟨v4, rfl, ?_⟩
      refine (s_X11_tell w_m3).to ?_
      rintro _ m5 ⟨w_m5, g3, rfl⟩
      have f_m5 : Fx (RS [2, 5, 9, 14]) m0 m5 := f_m3.tr g3 (RS_sub rfl)
      refine ⟨rfl, ?_⟩
      exact ⟨w_m5, f_m5, _, rfl⟩
set_option maxHeartbeats 4000000 in
theorem s_X11_judge {ad : Nat → Nat} {d : Nat} {m : Wm} {x1 x2 : Int32} (w : WT m) : Ct ad μX11_judge (d + 6) [.ref (ad 0), .int x1, .int x2] m (fun r m' => WT m' ∧ Fx (RS [2, 5, 9, 14]) m m' ∧ ∃ v : Int32, r = some (.int v)) := by
  have f : Fx (RS [2, 5, 9, 14]) m m := Fx.rf
  refine v_X11_judge  ?_
  refine ⟨?_, ?_⟩
  · intro c1
    have k2 := y_ltr (n := 0) rfl c1
    exact ⟨w, f, _, rfl⟩
  · intro c3
    have k4 := y_nltr (n := 0) rfl c3
    refine ⟨?_, ?_⟩
    · intro c5
      have k6 := y_ler (n := 3) rfl c5
      refine (s_X8_copy w SS_26 SS_21).to ?_
      rintro _ m1 ⟨w_m1, g7, rfl⟩
      have f_m1 : Fx (RS [2, 5, 9, 14]) m m1 := f.tr g7 (RS_sub rfl)
      refine ⟨rfl, ?_⟩
      exact (l_X11_judge (m0 := m) 1000000).1 _ _ _ _ _ w_m1 f_m1 (by show (0 : Int) ≤ (x1).toInt; omega) (by show (x1).toInt ≤ (3 : Int); omega) (by show (0 : Int) ≤ (0 : Int); omega) (by show (0 : Int) ≤ (3 : Int); omega) (by show 4 - (0 : Int) < _; omega)
    · intro c8
      have k9 := y_nler (n := 3) rfl c8
      exact ⟨w, f, _, rfl⟩
set_option maxHeartbeats 4000000 in
theorem l_X11_rounds {ad : Nat → Nat} {d : Nat} {m0 : Wm}  : ∀ n : Nat, (∀ (m : Wm) (x1 x2 x3 x4 : Int32), WT m → Fx (RS [2, 4, 6, 9, 14, 44, 53]) m0 m → (0 : Int) ≤ x1.toInt → x1.toInt ≤ (200 : Int) → (0 : Int) ≤ x4.toInt → x4.toInt ≤ (200 : Int) → (200 - x4.toInt) * 100 + 60 < (n : Int) → AW ad E0 μX11_rounds (d + 7) (fun r m' => WT m' ∧ Fx (RS [2, 4, 6, 9, 14, 44, 53]) m0 m' ∧ ∃ v : Int32, r = some (.int v)) 30 [(0, .ref (ad 0)), (1, .int x1), (2, .int x2), (3, .int x3), (4, .int x4)] [] m) ∧ (∀ (m : Wm) (x1 x2 x3 x4 x5 x6 : Int32), WT m → Fx (RS [2, 4, 6, 9, 14, 44, 53]) m0 m → (0 : Int) ≤ x1.toInt → x1.toInt ≤ (200 : Int) → (0 : Int) ≤ x4.toInt → x4.toInt ≤ (199 : Int) → (0 : Int) ≤ x5.toInt → x5.toInt ≤ (48 : Int) → (0 : Int) ≤ x6.toInt → x6.toInt ≤ (48 : Int) → (200 - x4.toInt) * 100 + 48 - x6.toInt < (n : Int) → AW ad E0 μX11_rounds (d + 7) (fun r m' => WT m' ∧ Fx (RS [2, 4, 6, 9, 14, 44, 53]) m0 m' ∧ ∃ v : Int32, r = some (.int v)) 64 [(0, .ref (ad 0)), (1, .int x1), (2, .int x2), (3, .int x3), (4, .int x4), (5, .int x5), (6, .int x6)] [] m) := by
  intro n
  induction n with
  | zero =>
    refine ⟨?_, ?_⟩ <;> intros <;> exfalso <;> omega
  | succ n ih =>
    refine ⟨?_, ?_⟩
    · intro m x1 x2 x3 x4 w f j1 j2 j3 j4 hn
      refine g_X11_rounds_30  ?_
      refine ⟨?_, ?_⟩
      · intro c1
        have k2 := z_le c1
        refine (s_X1_total w SS_21).to ?_
        rintro _ m1 ⟨w_m1, g3, v2, rfl⟩
        have f_m1 : Fx (RS [2, 4, 6, 9, 14, 44, 53]) m0 m1 := f.tr g3 (RS_sub rfl)
        refine ⟨v2, rfl, ?_⟩
        refine (s_X11_tell_ w_m1).to ?_
        rintro _ m3 ⟨w_m3, g4, rfl⟩
        have f_m3 : Fx (RS [2, 4, 6, 9, 14, 44, 53]) m0 m3 := f_m1.tr g4 (RS_sub rfl)
        refine ⟨rfl, ?_⟩
        exact ⟨w_m3, f_m3, _, rfl⟩
      · intro c5
        have k6 := z_nle c5
        obtain ⟨r4, e7, q8⟩ := w.r09
        refine ⟨r4, e7, Pl_of q8, ?_⟩
        refine (s_X3_begin w q8).to ?_
        rintro _ m5 ⟨w_m5, g9, v6, rfl, p10, p11⟩
        have f_m5 : Fx (RS [2, 4, 6, 9, 14, 44, 53]) m0 m5 := f.tr g9 (RS_sub rfl)
        refine ⟨v6, rfl, ?_⟩
        obtain ⟨r7, e12, q13⟩ := w_m5.r09
        refine ⟨r7, e12, Pl_of q13, ?_⟩
        refine (s_X3_begin w_m5 q13).to ?_
        rintro _ m8 ⟨w_m8, g14, v9, rfl, p15, p16⟩
        have f_m8 : Fx (RS [2, 4, 6, 9, 14, 44, 53]) m0 m8 := f_m5.tr g14 (RS_sub rfl)
        refine ⟨v9, rfl, ?_⟩
        exact ih.2 _ _ _ _ _ _ _ w_m8 f_m8 (by show (0 : Int) ≤ (x1).toInt; omega) (by show (x1).toInt ≤ (200 : Int); omega) (by show (0 : Int) ≤ (x4).toInt; omega) (by show (x4).toInt ≤ (199 : Int); omega) (by show (0 : Int) ≤ (v6).toInt; omega) (by show (v6).toInt ≤ (48 : Int); omega) (by show (0 : Int) ≤ (v9).toInt; omega) (by show (v9).toInt ≤ (48 : Int); omega) (by show (200 - (x4).toInt) * 100 + 48 - (v9).toInt < _; omega)
    · intro m x1 x2 x3 x4 x5 x6 w f j1 j2 j3 j4 j5 j6 j7 j8 hn
      refine g_X11_rounds_64  ?_
      refine ⟨?_, ?_⟩
      · intro c1
        have k2 := z_le c1
        obtain ⟨r1, e3, q4⟩ := w.r09
        refine ⟨r1, e3, Pl_of q4, ?_⟩
        refine (s_X3_after w q4).to ?_
        rintro _ m2 ⟨w_m2, g5, v3, rfl⟩
        have f_m2 : Fx (RS [2, 4, 6, 9, 14, 44, 53]) m0 m2 := f.tr g5 (RS_sub rfl)
        refine ⟨v3, rfl, ?_⟩
        have w6 : WT (uI m2 0 11 v3) := w_m2.n rfl
        have f6 : Fx (RS [2, 4, 6, 9, 14, 44, 53]) m0 (uI m2 0 11 v3) := f_m2.i rfl
        have t7 := ti_addc (x := x4) (y := (1 : Int32)) (c := 1) rfl (by omega)
        exact ih.1 _ _ _ _ _ w6 f6 (by show (0 : Int) ≤ (x1).toInt; omega) (by show (x1).toInt ≤ (200 : Int); omega) (by show (0 : Int) ≤ ((x4 + (1 : Int32))).toInt; omega) (by show ((x4 + (1 : Int32))).toInt ≤ (200 : Int); omega) (by show (200 - ((x4 + (1 : Int32))).toInt) * 100 + 60 < _; omega)
      · intro c8
        have k9 := z_nle c8
        obtain ⟨r4, e10, q11⟩ := w.r09
        refine ⟨r4, e10, Pl_of q11, ?_⟩
        refine ⟨?_, ?_⟩
        · exact vpi (by omega) (by omega)
        · refine ⟨r4, e10, Pl_of q11, ?_⟩
          refine ⟨?_, ?_⟩
          · exact vpi (by omega) (by omega)
          · refine ⟨r4, e10, Pl_of q11, ?_⟩
            refine ⟨?_, ?_⟩
            · exact vpi (by omega) (by omega)
            · have r12 := w.plj (j := 1) (k := x6.toNatClampNeg) q11 rfl rfl
              have r13 := w.plj (j := 2) (k := x6.toNatClampNeg) q11 rfl rfl
              refine (s_X11_playNow w (by show (0 : Int) ≤ ((m.1 (r4 + 1) x6.toNatClampNeg)).toInt; omega) (by show ((m.1 (r4 + 1) x6.toNatClampNeg)).toInt ≤ (7 : Int); omega) (by show (0 : Int) ≤ ((m.1 (r4 + 2) x6.toNatClampNeg)).toInt; omega) (by show ((m.1 (r4 + 2) x6.toNatClampNeg)).toInt ≤ (7 : Int); omega)).to ?_
              rintro _ m7 ⟨w_m7, g14, v8, rfl, p15, p16⟩
              have f_m7 : Fx (RS [2, 4, 6, 9, 14, 44, 53]) m0 m7 := f.tr g14 (RS_sub rfl)
              refine ⟨v8, rfl, ?_⟩
              refine ⟨?_, ?_⟩
              · intro c17
                have k18 := y_ner (n := 2) rfl c17
                have t19 := ti_addc (x := x6) (y := (1 : Int32)) (c := 1) rfl (by omega)
                exact ih.2 _ _ _ _ _ _ _ w_m7 f_m7 (by show (0 : Int) ≤ (x1).toInt; omega) (by show (x1).toInt ≤ (200 : Int); omega) (by show (0 : Int) ≤ (x4).toInt; omega) (by show (x4).toInt ≤ (199 : Int); omega) (by show (0 : Int) ≤ (x5).toInt; omega) (by show (x5).toInt ≤ (48 : Int); omega) (by show (0 : Int) ≤ ((x6 + (1 : Int32))).toInt; omega) (by show ((x6 + (1 : Int32))).toInt ≤ (48 : Int); omega) (by show (200 - (x4).toInt) * 100 + 48 - ((x6 + (1 : Int32))).toInt < _; omega)
              · intro c20
                have k21 := y_eqr (n := 2) rfl c20
                have t22 := ti_addc (x := x6) (y := (1 : Int32)) (c := 1) rfl (by omega)
                exact ih.2 _ _ _ _ _ _ _ w_m7 f_m7 (by show (0 : Int) ≤ (x1).toInt; omega) (by show (x1).toInt ≤ (200 : Int); omega) (by show (0 : Int) ≤ (x4).toInt; omega) (by show (x4).toInt ≤ (199 : Int); omega) (by show (0 : Int) ≤ (x5).toInt; omega) (by show (x5).toInt ≤ (48 : Int); omega) (by show (0 : Int) ≤ ((x6 + (1 : Int32))).toInt; omega) (by show ((x6 + (1 : Int32))).toInt ≤ (48 : Int); omega) (by show (200 - (x4).toInt) * 100 + 48 - ((x6 + (1 : Int32))).toInt < _; omega)
set_option maxHeartbeats 4000000 in
theorem s_X11_rounds {ad : Nat → Nat} {d : Nat} {m : Wm} {x1 : Int32} (w : WT m) : Ct ad μX11_rounds (d + 7) [.ref (ad 0), .int x1] m (fun r m' => WT m' ∧ Fx (RS [2, 4, 6, 9, 14, 44, 53]) m m' ∧ ∃ v : Int32, r = some (.int v)) := by
  have f : Fx (RS [2, 4, 6, 9, 14, 44, 53]) m m := Fx.rf
  refine v_X11_rounds  ?_
  refine ⟨?_, ?_⟩
  · intro c1
    have k2 := y_ltr (n := 0) rfl c1
    exact ⟨w, f, _, rfl⟩
  · intro c3
    have k4 := y_nltr (n := 0) rfl c3
    refine ⟨?_, ?_⟩
    · intro c5
      have k6 := y_ltl (n := 200) rfl c5
      exact ⟨w, f, _, rfl⟩
    · intro c7
      have k8 := y_nltl (n := 200) rfl c7
      obtain ⟨r1, e9, q10⟩ := w.r09
      refine ⟨r1, e9, Pl_of q10, ?_⟩
      refine ⟨?_, ?_⟩
      · intro c11
        have r12 := w.pl (k := 5) q10 rfl rfl
        have k13 := y_ner (n := 0) rfl c11
        exact (l_X11_rounds (m0 := m) 1000000).1 _ _ _ _ _ w f (by show (0 : Int) ≤ (x1).toInt; omega) (by show (x1).toInt ≤ (200 : Int); omega) (by show (0 : Int) ≤ (0 : Int); omega) (by show (0 : Int) ≤ (200 : Int); omega) (by show (200 - (0 : Int)) * 100 + 60 < _; omega)
      · intro c14
        have r15 := w.pl (k := 5) q10 rfl rfl
        have k16 := y_eqr (n := 0) rfl c14
        exact ⟨w, f, _, rfl⟩
end
