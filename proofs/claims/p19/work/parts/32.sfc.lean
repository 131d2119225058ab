/-! SAFETY OF THE CLASS, BY PROGRAM (X4_canEnd .. X4_enter) -/
set_option maxHeartbeats 4000000 in
theorem s_X4_canEnd {ad : Nat → Nat} {d : Nat} {m : Wm} (w : WT m) : Ct ad μX4_canEnd d [.ref (ad 15)] m (fun r m' => WT m' ∧ Fx (RS []) m m' ∧ ∃ v : Int32, r = some (.int v) ∧ (0 : Int) ≤ v.toInt ∧ v.toInt ≤ 1) := by
  have f : Fx (RS []) m m := Fx.rf
  refine v_X4_canEnd  ?_
  refine ⟨?_, ?_⟩
  · intro c1
    have k2 := y_eqr (n := 3) rfl c1
    exact ⟨w, f, _, rfl, (by show (0 : Int) ≤ (1 : Int); omega), (by show (1 : Int) ≤ (1 : Int); omega)⟩
  · intro c3
    have k4 := y_ner (n := 3) rfl c3
    refine ⟨?_, ?_⟩
    · intro c5
      have k6 := y_ner (n := 2) rfl c5
      exact ⟨w, f, _, rfl, (by show (0 : Int) ≤ (0 : Int); omega), (by show (0 : Int) ≤ (1 : Int); omega)⟩
    · intro c7
      have k8 := y_eqr (n := 2) rfl c7
      refine ⟨?_, ?_⟩
      · intro c9
        have r10 := w.at (a := 15) (k := 2) rfl
        have k11 := z_ne c9
        exact ⟨w, f, _, rfl, (by show (0 : Int) ≤ (0 : Int); omega), (by show (0 : Int) ≤ (1 : Int); omega)⟩
      · intro c12
        have r13 := w.at (a := 15) (k := 2) rfl
        have k14 := z_eq c12
        exact ⟨w, f, _, rfl, (by show (0 : Int) ≤ (1 : Int); omega), (by show (1 : Int) ≤ (1 : Int); omega)⟩
set_option maxHeartbeats 4000000 in
theorem s_X4_takeSkill {ad : Nat → Nat} {d : Nat} {m : Wm} {x1 : Int32} (w : WT m) : Ct ad μX4_takeSkill (d + 1) [.ref (ad 15), .int x1] m (fun r m' => WT m' ∧ Fx (RS [3]) m m' ∧ ∃ v : Int32, r = some (.int v) ∧ (0 : Int) ≤ v.toInt ∧ v.toInt ≤ 1) := by
  have f : Fx (RS [3]) m m := Fx.rf
  refine v_X4_takeSkill  ?_
  refine ⟨?_, ?_⟩
  · intro c1
    have k2 := y_ltr (n := 0) rfl c1
    exact ⟨w, f, _, rfl, (by show (0 : Int) ≤ (0 : Int); omega), (by show (0 : Int) ≤ (1 : Int); omega)⟩
  · intro c3
    have k4 := y_nltr (n := 0) rfl c3
    refine ⟨?_, ?_⟩
    · intro c5
      have k6 := y_ler (n := 7) rfl c5
      refine (s_X8_putSkill w SS_16).to ?_
      rintro _ m1 ⟨w_m1, g7, rfl⟩
      have f_m1 : Fx (RS [3]) m m1 := f.tr g7 (RS_sub rfl)
      refine ⟨rfl, ?_⟩
      have w8 : WT (uI m1 15 5 ((m1.1 15 5) + (1 : Int32))) := w_m1.n rfl
      have f8 : Fx (RS [3]) m (uI m1 15 5 ((m1.1 15 5) + (1 : Int32))) := f_m1.i rfl
      exact ⟨w8, f8, _, rfl, (by show (0 : Int) ≤ (1 : Int); omega), (by show (1 : Int) ≤ (1 : Int); omega)⟩
    · intro c9
      have k10 := y_nler (n := 7) rfl c9
      exact ⟨w, f, _, rfl, (by show (0 : Int) ≤ (0 : Int); omega), (by show (0 : Int) ≤ (1 : Int); omega)⟩
set_option maxHeartbeats 4000000 in
theorem s_X4_takeIll {ad : Nat → Nat} {d : Nat} {m : Wm} {x1 : Int32} (w : WT m) : Ct ad μX4_takeIll d [.ref (ad 15), .int x1] m (fun r m' => WT m' ∧ Fx (RS [3]) m m' ∧ ∃ v : Int32, r = some (.int v) ∧ (0 : Int) ≤ v.toInt ∧ v.toInt ≤ 1) := by
  have f : Fx (RS [3]) m m := Fx.rf
  refine v_X4_takeIll  ?_
  refine ⟨?_, ?_⟩
  · intro c1
    have k2 := y_ner (n := 33) rfl c1
    exact ⟨w, f, _, rfl, (by show (0 : Int) ≤ (0 : Int); omega), (by show (0 : Int) ≤ (1 : Int); omega)⟩
  · intro c3
    have k4 := y_eqr (n := 33) rfl c3
    refine ⟨?_, ?_⟩
    · intro c5
      have r6 := w.at (a := 15) (k := 1) rfl
      have k7 := y_ner (n := 0) rfl c5
      have w8 : WT (uI m 15 3 ((m.1 15 3) ||| ((1 : Int32) <<< (((m.1 15 1) - (1 : Int32)) &&& 31)))) := w.n rfl
      have f8 : Fx (RS [3]) m (uI m 15 3 ((m.1 15 3) ||| ((1 : Int32) <<< (((m.1 15 1) - (1 : Int32)) &&& 31)))) := f.i rfl
      have w9 : WT (uI (uI m 15 3 ((m.1 15 3) ||| ((1 : Int32) <<< (((m.1 15 1) - (1 : Int32)) &&& 31)))) 15 6 (3 : Int32)) := w8.n rfl
      have f9 : Fx (RS [3]) m (uI (uI m 15 3 ((m.1 15 3) ||| ((1 : Int32) <<< (((m.1 15 1) - (1 : Int32)) &&& 31)))) 15 6 (3 : Int32)) := f8.i rfl
      exact ⟨w9, f9, _, rfl, (by show (0 : Int) ≤ (1 : Int); omega), (by show (1 : Int) ≤ (1 : Int); omega)⟩
    · intro c10
      have r11 := w.at (a := 15) (k := 1) rfl
      have k12 := y_eqr (n := 0) rfl c10
      exact ⟨w, f, _, rfl, (by show (0 : Int) ≤ (0 : Int); omega), (by show (0 : Int) ≤ (1 : Int); omega)⟩
set_option maxHeartbeats 4000000 in
theorem l_X4_takeArts {ad : Nat → Nat} {d : Nat} {m0 : Wm}  : ∀ n : Nat, (∀ (m : Wm) (x1 x2 : Int32), WT m → Fx (RS [3]) m0 m → (1 : Int) ≤ x1.toInt → x1.toInt ≤ (4 : Int) → (0 : Int) ≤ x2.toInt → x2.toInt ≤ (8 : Int) → 8 - x2.toInt < (n : Int) → AW ad E0 μX4_takeArts (d + 2) (fun r m' => WT m' ∧ Fx (RS [3]) m0 m' ∧ ∃ v : Int32, r = some (.int v) ∧ (0 : Int) ≤ v.toInt ∧ v.toInt ≤ 1) 14 [(0, .ref (ad 15)), (1, .int x1), (2, .int x2)] [] m) := by
  intro n
  induction n with
  | zero =>
    intros
    exfalso
    omega
  | succ n ih =>
    intro m x1 x2 w f j1 j2 j3 j4 hn
    refine g_X4_takeArts_14  ?_
    refine ⟨?_, ?_⟩
    · intro c1
      have k2 := y_lel (n := 8) rfl c1
      have w3 : WT (uI m 15 3 (0 : Int32)) := w.n rfl
      have f3 : Fx (RS [3]) m0 (uI m 15 3 (0 : Int32)) := f.i rfl
      have w4 : WT (uI (uI m 15 3 (0 : Int32)) 15 1 (0 : Int32)) := w3.t rfl (by show (0 : Int) ≤ (0 : Int); omega) (by show (0 : Int) ≤ 8; omega)
      have f4 : Fx (RS [3]) m0 (uI (uI m 15 3 (0 : Int32)) 15 1 (0 : Int32)) := f3.i rfl
      have w5 : WT (uI (uI (uI m 15 3 (0 : Int32)) 15 1 (0 : Int32)) 15 2 x1) := w4.t rfl (by show (0 : Int) ≤ (x1).toInt; omega) (by show (x1).toInt ≤ 4; omega)
      have f5 : Fx (RS [3]) m0 (uI (uI (uI m 15 3 (0 : Int32)) 15 1 (0 : Int32)) 15 2 x1) := f4.i rfl
      have w6 : WT (uI (uI (uI (uI m 15 3 (0 : Int32)) 15 1 (0 : Int32)) 15 2 x1) 15 7 (1 : Int32)) := w5.n rfl
      have f6 : Fx (RS [3]) m0 (uI (uI (uI (uI m 15 3 (0 : Int32)) 15 1 (0 : Int32)) 15 2 x1) 15 7 (1 : Int32)) := f5.i rfl
      have w7 : WT (uI (uI (uI (uI (uI m 15 3 (0 : Int32)) 15 1 (0 : Int32)) 15 2 x1) 15 7 (1 : Int32)) 15 6 (3 : Int32)) := w6.n rfl
      have f7 : Fx (RS [3]) m0 (uI (uI (uI (uI (uI m 15 3 (0 : Int32)) 15 1 (0 : Int32)) 15 2 x1) 15 7 (1 : Int32)) 15 6 (3 : Int32)) := f6.i rfl
      exact ⟨w7, f7, _, rfl, (by show (0 : Int) ≤ (1 : Int); omega), (by show (1 : Int) ≤ (1 : Int); omega)⟩
    · intro c8
      have k9 := y_nlel (n := 8) rfl c8
      refine (s_X8_clearSide w SS_16 (by show (0 : Int) ≤ (x2).toInt; omega) (by show (x2).toInt ≤ (7 : Int); omega)).to ?_
      rintro _ m1 ⟨w_m1, g10, rfl⟩
      have f_m1 : Fx (RS [3]) m0 m1 := f.tr g10 (RS_sub rfl)
      refine ⟨rfl, ?_⟩
      have t11 := ti_addc (x := x2) (y := (1 : Int32)) (c := 1) rfl (by omega)
      exact ih _ _ _ w_m1 f_m1 (by show (1 : Int) ≤ (x1).toInt; omega) (by show (x1).toInt ≤ (4 : Int); omega) (by show (0 : Int) ≤ ((x2 + (1 : Int32))).toInt; omega) (by show ((x2 + (1 : Int32))).toInt ≤ (8 : Int); omega) (by show 8 - ((x2 + (1 : Int32))).toInt < _; omega)
set_option maxHeartbeats 4000000 in
theorem s_X4_takeArts {ad : Nat → Nat} {d : Nat} {m : Wm} {x1 : Int32} (w : WT m) : Ct ad μX4_takeArts (d + 2) [.ref (ad 15), .int x1] m (fun r m' => WT m' ∧ Fx (RS [3]) m m' ∧ ∃ v : Int32, r = some (.int v) ∧ (0 : Int) ≤ v.toInt ∧ v.toInt ≤ 1) := by
  have f : Fx (RS [3]) m m := Fx.rf
  refine v_X4_takeArts  ?_
  refine ⟨?_, ?_⟩
  · intro c1
    have k2 := y_ltr (n := 1) rfl c1
    exact ⟨w, f, _, rfl, (by show (0 : Int) ≤ (0 : Int); omega), (by show (0 : Int) ≤ (1 : Int); omega)⟩
  · intro c3
    have k4 := y_nltr (n := 1) rfl c3
    refine ⟨?_, ?_⟩
    · intro c5
      have k6 := y_ler (n := 4) rfl c5
      exact (l_X4_takeArts (m0 := m) 1000000) _ _ _ w f (by show (1 : Int) ≤ (x1).toInt; omega) (by show (x1).toInt ≤ (4 : Int); omega) (by show (0 : Int) ≤ (0 : Int); omega) (by show (0 : Int) ≤ (8 : Int); omega) (by show 8 - (0 : Int) < _; omega)
    · intro c7
      have k8 := y_nler (n := 4) rfl c7
      exact ⟨w, f, _, rfl, (by show (0 : Int) ≤ (0 : Int); omega), (by show (0 : Int) ≤ (1 : Int); omega)⟩
set_option maxHeartbeats 4000000 in
theorem s_X4_takeLine {ad : Nat → Nat} {d : Nat} {m : Wm} {x1 : Int32} (w : WT m) : Ct ad μX4_takeLine (d + 2) [.ref (ad 15), .int x1] m (fun r m' => WT m' ∧ Fx (RS [3]) m m' ∧ ∃ v : Int32, r = some (.int v) ∧ (0 : Int) ≤ v.toInt ∧ v.toInt ≤ 1) := by
  have f : Fx (RS [3]) m m := Fx.rf
  refine v_X4_takeLine  ?_
  refine ⟨?_, ?_⟩
  · intro c1
    have k2 := y_ner (n := 119) rfl c1
    refine ⟨?_, ?_⟩
    · intro c3
      have r4 := w.at (a := 15) (k := 1) rfl
      have c5 : (m.1 15 1) < (8 : Int32) := c3
      have k6 := y_ltr (n := 8) rfl c5
      have w7 : WT (uI m 15 4 ((m.1 15 4) + (1 : Int32))) := w.n rfl
      have f7 : Fx (RS [3]) m (uI m 15 4 ((m.1 15 4) + (1 : Int32))) := f.i rfl
      have t9 := ti_addc (x := (m.1 15 1)) (y := (1 : Int32)) (c := 1) rfl (by omega)
      have w8 : WT (uI (uI m 15 4 ((m.1 15 4) + (1 : Int32))) 15 1 (((uI m 15 4 ((m.1 15 4) + (1 : Int32))).1 15 1) + (1 : Int32))) := w7.t rfl (by show (0 : Int) ≤ (((m.1 15 1) + (1 : Int32))).toInt; omega) (by show (((m.1 15 1) + (1 : Int32))).toInt ≤ 8; omega)
      have f8 : Fx (RS [3]) m (uI (uI m 15 4 ((m.1 15 4) + (1 : Int32))) 15 1 (((uI m 15 4 ((m.1 15 4) + (1 : Int32))).1 15 1) + (1 : Int32))) := f7.i rfl
      have w10 : WT (uI (uI (uI m 15 4 ((m.1 15 4) + (1 : Int32))) 15 1 (((uI m 15 4 ((m.1 15 4) + (1 : Int32))).1 15 1) + (1 : Int32))) 15 5 (0 : Int32)) := w8.n rfl
      have f10 : Fx (RS [3]) m (uI (uI (uI m 15 4 ((m.1 15 4) + (1 : Int32))) 15 1 (((uI m 15 4 ((m.1 15 4) + (1 : Int32))).1 15 1) + (1 : Int32))) 15 5 (0 : Int32)) := f8.i rfl
      have t11 := ti_subc (x := ((m.1 15 1) + (1 : Int32))) (y := (1 : Int32)) (c := 1) rfl (by omega)
      refine (s_X8_clearSide w10 SS_16 (by show (0 : Int) ≤ ((((m.1 15 1) + (1 : Int32)) - (1 : Int32))).toInt; omega) (by show ((((m.1 15 1) + (1 : Int32)) - (1 : Int32))).toInt ≤ (7 : Int); omega)).to ?_
      rintro _ m1 ⟨w_m1, g12, rfl⟩
      have f_m1 : Fx (RS [3]) m m1 := f10.tr g12 (RS_sub rfl)
      refine ⟨rfl, ?_⟩
      have w13 : WT (uI m1 15 6 (2 : Int32)) := w_m1.n rfl
      have f13 : Fx (RS [3]) m (uI m1 15 6 (2 : Int32)) := f_m1.i rfl
      refine (s_X4_takeSkill w13).to ?_
      rintro _ m2 ⟨w_m2, g14, v3, rfl, p15, p16⟩
      have f_m2 : Fx (RS [3]) m m2 := f13.tr g14 (RS_sub rfl)
      refine ⟨v3, rfl, ?_⟩
      refine ⟨?_, ?_⟩
      · exact bz_of (by omega) (by omega)
      · exact ⟨w_m2, f_m2, _, rfl, (by show (0 : Int) ≤ (v3).toInt; omega), (by show (v3).toInt ≤ (1 : Int); omega)⟩
    · intro c17
      have r18 := w.at (a := 15) (k := 1) rfl
      have c19 : ¬ (m.1 15 1) < (8 : Int32) := c17
      have k20 := y_nltr (n := 8) rfl c19
      have w21 : WT (uI m 15 4 ((m.1 15 4) + (1 : Int32))) := w.n rfl
      have f21 : Fx (RS [3]) m (uI m 15 4 ((m.1 15 4) + (1 : Int32))) := f.i rfl
      exact ⟨w21, f21, _, rfl, (by show (0 : Int) ≤ (0 : Int); omega), (by show (0 : Int) ≤ (1 : Int); omega)⟩
  · intro c22
    have k23 := y_eqr (n := 119) rfl c22
    have w24 : WT (uI m 15 4 ((m.1 15 4) + (1 : Int32))) := w.n rfl
    have f24 : Fx (RS [3]) m (uI m 15 4 ((m.1 15 4) + (1 : Int32))) := f.i rfl
    have w25 : WT (uI (uI m 15 4 ((m.1 15 4) + (1 : Int32))) 15 6 (1 : Int32)) := w24.n rfl
    have f25 : Fx (RS [3]) m (uI (uI m 15 4 ((m.1 15 4) + (1 : Int32))) 15 6 (1 : Int32)) := f24.i rfl
    exact ⟨w25, f25, _, rfl, (by show (0 : Int) ≤ (1 : Int); omega), (by show (1 : Int) ≤ (1 : Int); omega)⟩
set_option maxHeartbeats 4000000 in
theorem l_X4_take {ad : Nat → Nat} {d : Nat} {m0 : Wm}  : ∀ n : Nat, (∀ (m : Wm) (x1 : Int32), WT m → Fx (RS [3]) m0 m → 0 * x1.toInt < (n : Int) → AW ad E0 μX4_take (d + 3) (fun r m' => WT m' ∧ Fx (RS [3]) m0 m' ∧ ∃ v : Int32, r = some (.int v) ∧ (0 : Int) ≤ v.toInt ∧ v.toInt ≤ 1) 20 [(0, .ref (ad 15)), (1, .int x1)] [] m) := by
  intro n
  induction n with
  | zero =>
    intros
    exfalso
    omega
  | succ n ih =>
    intro m x1 w f  hn
    refine g_X4_take_20  ?_
    refine ⟨?_, ?_, ?_, ?_⟩
    · intro c1
      have k2 := y_eqr (n := 0) rfl c1
      refine (s_X4_takeLine w).to ?_
      rintro _ m1 ⟨w_m1, g3, v2, rfl, p4, p5⟩
      have f_m1 : Fx (RS [3]) m0 m1 := f.tr g3 (RS_sub rfl)
      refine ⟨v2, rfl, ?_⟩
      refine ⟨?_, ?_⟩
      · exact bz_of (by omega) (by omega)
      · exact ⟨w_m1, f_m1, _, rfl, (by show (0 : Int) ≤ (v2).toInt; omega), (by show (v2).toInt ≤ (1 : Int); omega)⟩
    · intro c6
      have k7 := y_eqr (n := 1) rfl c6
      refine (s_X4_takeArts w).to ?_
      rintro _ m3 ⟨w_m3, g8, v4, rfl, p9, p10⟩
      have f_m3 : Fx (RS [3]) m0 m3 := f.tr g8 (RS_sub rfl)
      refine ⟨v4, rfl, ?_⟩
      refine ⟨?_, ?_⟩
      · exact bz_of (by omega) (by omega)
      · exact ⟨w_m3, f_m3, _, rfl, (by show (0 : Int) ≤ (v4).toInt; omega), (by show (v4).toInt ≤ (1 : Int); omega)⟩
    · intro c11
      have k12 := y_eqr (n := 2) rfl c11
      refine ⟨?_, ?_⟩
      · intro c13
        have r14 := w.at (a := 15) (k := 2) rfl
        have k15 := z_le c13
        refine (s_X4_takeIll w).to ?_
        rintro _ m5 ⟨w_m5, g16, v6, rfl, p17, p18⟩
        have f_m5 : Fx (RS [3]) m0 m5 := f.tr g16 (RS_sub rfl)
        refine ⟨v6, rfl, ?_⟩
        refine ⟨?_, ?_⟩
        · exact bz_of (by omega) (by omega)
        · exact ⟨w_m5, f_m5, _, rfl, (by show (0 : Int) ≤ (v6).toInt; omega), (by show (v6).toInt ≤ (1 : Int); omega)⟩
      · intro c19
        have r20 := w.at (a := 15) (k := 2) rfl
        have k21 := z_nle c19
        refine (s_X4_takeSkill w).to ?_
        rintro _ m7 ⟨w_m7, g22, v8, rfl, p23, p24⟩
        have f_m7 : Fx (RS [3]) m0 m7 := f.tr g22 (RS_sub rfl)
        refine ⟨v8, rfl, ?_⟩
        refine ⟨?_, ?_⟩
        · exact bz_of (by omega) (by omega)
        · exact ⟨w_m7, f_m7, _, rfl, (by show (0 : Int) ≤ (v8).toInt; omega), (by show (v8).toInt ≤ (1 : Int); omega)⟩
    · intro c25
      have k26 := y_ner (n := 0) rfl c25
      intro c27
      have k28 := y_ner (n := 1) rfl c27
      intro c29
      have k30 := y_ner (n := 2) rfl c29
      exact ⟨w, f, _, rfl, (by show (0 : Int) ≤ (0 : Int); omega), (by show (0 : Int) ≤ (1 : Int); omega)⟩
set_option maxHeartbeats 4000000 in
theorem s_X4_take {ad : Nat → Nat} {d : Nat} {m : Wm} {x1 : Int32} (w : WT m) : Ct ad μX4_take (d + 3) [.ref (ad 15), .int x1] m (fun r m' => WT m' ∧ Fx (RS [3]) m m' ∧ ∃ v : Int32, r = some (.int v) ∧ (0 : Int) ≤ v.toInt ∧ v.toInt ≤ 1) := by
  have f : Fx (RS [3]) m m := Fx.rf
  refine v_X4_take  ?_
  refine ⟨?_, ?_⟩
  · intro c1
    have k2 := y_ner (n := 59) rfl c1
    exact (l_X4_take (m0 := m) 1000000) _ _ w f (by show 0 * (x1).toInt < _; omega)
  · intro c3
    have k4 := y_eqr (n := 59) rfl c3
    refine (s_X4_canEnd w).to ?_
    rintro _ m1 ⟨w_m1, g5, v2, rfl, p6, p7⟩
    have f_m1 : Fx (RS [3]) m m1 := f.tr g5 (RS_sub rfl)
    refine ⟨v2, rfl, ?_⟩
    refine ⟨?_, ?_⟩
    · intro c8
      have k9 := y_eqr (n := 0) rfl c8
      exact (l_X4_take (m0 := m) 1000000) _ _ w_m1 f_m1 (by show 0 * (x1).toInt < _; omega)
    · intro c10
      have k11 := y_ner (n := 0) rfl c10
      have w12 : WT (uI m1 15 6 (0 : Int32)) := w_m1.n rfl
      have f12 : Fx (RS [3]) m (uI m1 15 6 (0 : Int32)) := f_m1.i rfl
      exact ⟨w12, f12, _, rfl, (by show (0 : Int) ≤ (1 : Int); omega), (by show (1 : Int) ≤ (1 : Int); omega)⟩
set_option maxHeartbeats 4000000 in
theorem l_X4_read {ad : Nat → Nat} {d : Nat} {m0 : Wm}  : ∀ n : Nat, (∀ (m : Wm) (x4 x5 : Int32), WT m → Fx (RS [3]) m0 m → (0 : Int) ≤ x4.toInt → x4.toInt ≤ (76 : Int) → (0 : Int) ≤ x5.toInt → x5.toInt ≤ (80 : Int) → 80 - x5.toInt < (n : Int) → AW ad E0 μX4_read (d + 4) (fun r m' => WT m' ∧ Fx (RS [3]) m0 m' ∧ ∃ v : Int32, r = some (.int v)) 61 [(0, .ref (ad 15)), (1, .ref (ad 1)), (4, .int x4), (5, .int x5)] [] m) := by
  intro n
  induction n with
  | zero =>
    intros
    exfalso
    omega
  | succ n ih =>
    intro m x4 x5 w f j1 j2 j3 j4 hn
    refine g_X4_read_61  ?_
    refine ⟨?_, ?_⟩
    · intro c1
      have k2 := z_le c1
      refine ⟨?_, ?_⟩
      · intro c3
        have r4 := w.at (a := 1) (k := 1) rfl
        have k5 := y_ltl (n := 76) rfl c3
        exact ⟨w, f, _, rfl⟩
      · intro c6
        have r7 := w.at (a := 1) (k := 1) rfl
        have k8 := y_nltl (n := 76) rfl c6
        refine (s_X4_canEnd w).to ?_
        rintro _ m1 ⟨w_m1, g9, v2, rfl, p10, p11⟩
        have f_m1 : Fx (RS [3]) m0 m1 := f.tr g9 (RS_sub rfl)
        refine ⟨v2, rfl, ?_⟩
        refine ⟨?_, ?_⟩
        · intro c12
          have k13 := y_ner (n := 0) rfl c12
          exact ⟨w_m1, f_m1, _, rfl⟩
        · intro c14
          have k15 := y_eqr (n := 0) rfl c14
          exact ⟨w_m1, f_m1, _, rfl⟩
    · intro c16
      have k17 := z_nle c16
      refine ⟨?_, ?_⟩
      · exact vpi (by omega) (by omega)
      · refine (s_X4_take w).to ?_
        rintro _ m3 ⟨w_m3, g18, v4, rfl, p19, p20⟩
        have f_m3 : Fx (RS [3]) m0 m3 := f.tr g18 (RS_sub rfl)
        refine ⟨v4, rfl, ?_⟩
        refine ⟨?_, ?_⟩
        · intro c21
          have k22 := y_ner (n := 0) rfl c21
          have t23 := ti_addc (x := x5) (y := (1 : Int32)) (c := 1) rfl (by omega)
          exact ih _ _ _ w_m3 f_m3 (by show (0 : Int) ≤ (x4).toInt; omega) (by show (x4).toInt ≤ (76 : Int); omega) (by show (0 : Int) ≤ ((x5 + (1 : Int32))).toInt; omega) (by show ((x5 + (1 : Int32))).toInt ≤ (80 : Int); omega) (by show 80 - ((x5 + (1 : Int32))).toInt < _; omega)
        · intro c24
          have k25 := y_eqr (n := 0) rfl c24
          exact ⟨w_m3, f_m3, _, rfl⟩
set_option maxHeartbeats 4000000 in
theorem s_X4_read {ad : Nat → Nat} {d : Nat} {m : Wm} (w : WT m) : Ct ad μX4_read (d + 4) [.ref (ad 15), .ref (ad 1), .ref (ad 3), .ref (ad 21)] m (fun r m' => WT m' ∧ Fx (RS [3]) m m' ∧ ∃ v : Int32, r = some (.int v)) := by
  have f : Fx (RS [3]) m m := Fx.rf
  refine v_X4_read St_21 ?_
  refine (s_X8_copy w SS_16 SS_21).to ?_
  rintro _ m1 ⟨w_m1, g1, rfl⟩
  have f_m1 : Fx (RS [3]) m m1 := f.tr g1 (RS_sub rfl)
  refine ⟨rfl, ?_⟩
  have r3 := w_m1.at (a := 3) (k := 3) rfl
  have w2 : WT (uI m1 15 1 (m1.1 3 3)) := w_m1.t rfl (by show (0 : Int) ≤ ((m1.1 3 3)).toInt; omega) (by show ((m1.1 3 3)).toInt ≤ 8; omega)
  have f2 : Fx (RS [3]) m (uI m1 15 1 (m1.1 3 3)) := f_m1.i rfl
  have r5 := w_m1.at (a := 3) (k := 4) rfl
  have w4 : WT (uI (uI m1 15 1 (m1.1 3 3)) 15 2 ((uI m1 15 1 (m1.1 3 3)).1 3 4)) := w2.t rfl (by show (0 : Int) ≤ ((m1.1 3 4)).toInt; omega) (by show ((m1.1 3 4)).toInt ≤ 4; omega)
  have f4 : Fx (RS [3]) m (uI (uI m1 15 1 (m1.1 3 3)) 15 2 ((uI m1 15 1 (m1.1 3 3)).1 3 4)) := f2.i rfl
  have w6 : WT (uI (uI (uI m1 15 1 (m1.1 3 3)) 15 2 ((uI m1 15 1 (m1.1 3 3)).1 3 4)) 15 3 ((uI (uI m1 15 1 (m1.1 3 3)) 15 2 ((uI m1 15 1 (m1.1 3 3)).1 3 4)).1 3 5)) := w4.n rfl
  have f6 : Fx (RS [3]) m (uI (uI (uI m1 15 1 (m1.1 3 3)) 15 2 ((uI m1 15 1 (m1.1 3 3)).1 3 4)) 15 3 ((uI (uI m1 15 1 (m1.1 3 3)) 15 2 ((uI m1 15 1 (m1.1 3 3)).1 3 4)).1 3 5)) := f4.i rfl
  have w7 : WT (uI (uI (uI (uI m1 15 1 (m1.1 3 3)) 15 2 ((uI m1 15 1 (m1.1 3 3)).1 3 4)) 15 3 ((uI (uI m1 15 1 (m1.1 3 3)) 15 2 ((uI m1 15 1 (m1.1 3 3)).1 3 4)).1 3 5)) 15 4 (0 : Int32)) := w6.n rfl
  have f7 : Fx (RS [3]) m (uI (uI (uI (uI m1 15 1 (m1.1 3 3)) 15 2 ((uI m1 15 1 (m1.1 3 3)).1 3 4)) 15 3 ((uI (uI m1 15 1 (m1.1 3 3)) 15 2 ((uI m1 15 1 (m1.1 3 3)).1 3 4)).1 3 5)) 15 4 (0 : Int32)) := f6.i rfl
  have w8 : WT (uI (uI (uI (uI (uI m1 15 1 (m1.1 3 3)) 15 2 ((uI m1 15 1 (m1.1 3 3)).1 3 4)) 15 3 ((uI (uI m1 15 1 (m1.1 3 3)) 15 2 ((uI m1 15 1 (m1.1 3 3)).1 3 4)).1 3 5)) 15 4 (0 : Int32)) 15 6 (0 : Int32)) := w7.n rfl
  have f8 : Fx (RS [3]) m (uI (uI (uI (uI (uI m1 15 1 (m1.1 3 3)) 15 2 ((uI m1 15 1 (m1.1 3 3)).1 3 4)) 15 3 ((uI (uI m1 15 1 (m1.1 3 3)) 15 2 ((uI m1 15 1 (m1.1 3 3)).1 3 4)).1 3 5)) 15 4 (0 : Int32)) 15 6 (0 : Int32)) := f7.i rfl
  have w9 : WT (uI (uI (uI (uI (uI (uI m1 15 1 (m1.1 3 3)) 15 2 ((uI m1 15 1 (m1.1 3 3)).1 3 4)) 15 3 ((uI (uI m1 15 1 (m1.1 3 3)) 15 2 ((uI m1 15 1 (m1.1 3 3)).1 3 4)).1 3 5)) 15 4 (0 : Int32)) 15 6 (0 : Int32)) 15 7 (0 : Int32)) := w8.n rfl
  have f9 : Fx (RS [3]) m (uI (uI (uI (uI (uI (uI m1 15 1 (m1.1 3 3)) 15 2 ((uI m1 15 1 (m1.1 3 3)).1 3 4)) 15 3 ((uI (uI m1 15 1 (m1.1 3 3)) 15 2 ((uI m1 15 1 (m1.1 3 3)).1 3 4)).1 3 5)) 15 4 (0 : Int32)) 15 6 (0 : Int32)) 15 7 (0 : Int32)) := f8.i rfl
  have r10 := w_m1.at (a := 1) (k := 1) rfl
  have t11 := ti_ltv (a := (76 : Int32)) (b := (m1.1 1 1)) (c := (76 : Int32)) (d := (m1.1 1 1)) (A := (76)) (B := (m1.1 1 1).toInt) (C := (76)) (D := (m1.1 1 1).toInt) rfl rfl rfl rfl
  exact (l_X4_read (m0 := m) 1000000) _ _ _ w9 f9 (by show (0 : Int) ≤ ((if (76 : Int32) < (m1.1 1 1) then (76 : Int32) else (m1.1 1 1))).toInt; omega) (by show ((if (76 : Int32) < (m1.1 1 1) then (76 : Int32) else (m1.1 1 1))).toInt ≤ (76 : Int); omega) (by show (0 : Int) ≤ (0 : Int); omega) (by show (0 : Int) ≤ (80 : Int); omega) (by show 80 - (0 : Int) < _; omega)
set_option maxHeartbeats 4000000 in
theorem s_X4_enter {ad : Nat → Nat} {d : Nat} {m : Wm} (w : WT m) : Ct ad μX4_enter (d + 2) [.ref (ad 15), .ref (ad 3), .ref (ad 21)] m (fun r m' => WT m' ∧ Fx (RS [4, 41, 42]) m m' ∧ r = none) := by
  have f : Fx (RS [4, 41, 42]) m m := Fx.rf
  refine v_X4_enter St_21 ?_
  refine (s_X8_copy w SS_21 SS_16).to ?_
  rintro _ m1 ⟨w_m1, g1, rfl⟩
  have f_m1 : Fx (RS [4, 41, 42]) m m1 := f.tr g1 (RS_sub rfl)
  refine ⟨rfl, ?_⟩
  have r3 := w_m1.at (a := 15) (k := 1) rfl
  have w2 : WT (uI m1 3 3 (m1.1 15 1)) := w_m1.t rfl (by show (0 : Int) ≤ ((m1.1 15 1)).toInt; omega) (by show ((m1.1 15 1)).toInt ≤ 8; omega)
  have f2 : Fx (RS [4, 41, 42]) m (uI m1 3 3 (m1.1 15 1)) := f_m1.i rfl
  have r5 := w_m1.at (a := 15) (k := 2) rfl
  have w4 : WT (uI (uI m1 3 3 (m1.1 15 1)) 3 4 ((uI m1 3 3 (m1.1 15 1)).1 15 2)) := w2.t rfl (by show (0 : Int) ≤ ((m1.1 15 2)).toInt; omega) (by show ((m1.1 15 2)).toInt ≤ 4; omega)
  have f4 : Fx (RS [4, 41, 42]) m (uI (uI m1 3 3 (m1.1 15 1)) 3 4 ((uI m1 3 3 (m1.1 15 1)).1 15 2)) := f2.i rfl
  have w6 : WT (uI (uI (uI m1 3 3 (m1.1 15 1)) 3 4 ((uI m1 3 3 (m1.1 15 1)).1 15 2)) 3 5 ((uI (uI m1 3 3 (m1.1 15 1)) 3 4 ((uI m1 3 3 (m1.1 15 1)).1 15 2)).1 15 3)) := w4.n rfl
  have f6 : Fx (RS [4, 41, 42]) m (uI (uI (uI m1 3 3 (m1.1 15 1)) 3 4 ((uI m1 3 3 (m1.1 15 1)).1 15 2)) 3 5 ((uI (uI m1 3 3 (m1.1 15 1)) 3 4 ((uI m1 3 3 (m1.1 15 1)).1 15 2)).1 15 3)) := f4.i rfl
  exact ⟨w6, f6, rfl⟩
