/-! SAFETY OF THE CLASS, BY PROGRAM (X3_clear .. X3_fillEachWithEach) -/
set_option maxHeartbeats 4000000 in
theorem s_X3_clear_134 {ad : Nat → Nat} {d : Nat} {m : Wm} (w : WT m) : Ct ad μX3_clear d [.ref (ad 134)] m (fun r m' => WT m' ∧ Fx (RS [7]) m m' ∧ r = none ∧ ((m'.1 134 5).toInt = 0)) := by
  have f : Fx (RS [7]) m m := Fx.rf
  refine v_X3_clear Pl_134 ?_
  have w1 : WT (uI m 134 5 (0 : Int32)) := w.t rfl (by show (0 : Int) ≤ (0 : Int); omega) (by show (0 : Int) ≤ 13; omega)
  have f1 : Fx (RS [7]) m (uI m 134 5 (0 : Int32)) := f.i rfl
  have w2 : WT (uI (uI m 134 5 (0 : Int32)) 134 6 (0 : Int32)) := w1.t rfl (by show (0 : Int) ≤ (0 : Int); omega) (by show (0 : Int) ≤ 48; omega)
  have f2 : Fx (RS [7]) m (uI (uI m 134 5 (0 : Int32)) 134 6 (0 : Int32)) := f1.i rfl
  exact ⟨w2, f2, rfl, (by show (0 : Int) = 0; omega)⟩
set_option maxHeartbeats 4000000 in
theorem s_X3_clear_140 {ad : Nat → Nat} {d : Nat} {m : Wm} (w : WT m) : Ct ad μX3_clear d [.ref (ad 140)] m (fun r m' => WT m' ∧ Fx (RS [7]) m m' ∧ r = none ∧ ((m'.1 140 5).toInt = 0)) := by
  have f : Fx (RS [7]) m m := Fx.rf
  refine v_X3_clear Pl_140 ?_
  have w1 : WT (uI m 140 5 (0 : Int32)) := w.t rfl (by show (0 : Int) ≤ (0 : Int); omega) (by show (0 : Int) ≤ 13; omega)
  have f1 : Fx (RS [7]) m (uI m 140 5 (0 : Int32)) := f.i rfl
  have w2 : WT (uI (uI m 140 5 (0 : Int32)) 140 6 (0 : Int32)) := w1.t rfl (by show (0 : Int) ≤ (0 : Int); omega) (by show (0 : Int) ≤ 48; omega)
  have f2 : Fx (RS [7]) m (uI (uI m 140 5 (0 : Int32)) 140 6 (0 : Int32)) := f1.i rfl
  exact ⟨w2, f2, rfl, (by show (0 : Int) = 0; omega)⟩
theorem s_X3_clear {ad : Nat → Nat} {d : Nat} {m : Wm} {b0 : Nat} (w : WT m) (hb0 : b0 = 134 ∨ b0 = 140) : Ct ad μX3_clear d [.ref (ad b0)] m (fun r m' => WT m' ∧ Fx (RS [7]) m m' ∧ r = none ∧ ((m'.1 b0 5).toInt = 0)) := by
  rcases hb0 with rfl | rfl
  · exact s_X3_clear_134 w
  · exact s_X3_clear_140 w
set_option maxHeartbeats 4000000 in
theorem s_X3_begin_134 {ad : Nat → Nat} {d : Nat} {m : Wm} {x1 : Int32} (w : WT m) : Ct ad μX3_begin d [.ref (ad 134), .int x1] m (fun r m' => WT m' ∧ Fx (RS []) m m' ∧ ∃ v : Int32, r = some (.int v) ∧ (0 : Int) ≤ v.toInt ∧ v.toInt ≤ 48) := by
  have f : Fx (RS []) m m := Fx.rf
  refine v_X3_begin Pl_134 ?_
  refine ⟨?_, ?_⟩
  · intro c1
    have k2 := y_ltr (n := 0) rfl c1
    have r3 := w.at (a := 134) (k := 6) rfl
    exact ⟨w, f, _, rfl, (by show (0 : Int) ≤ ((m.1 134 6)).toInt; omega), (by show ((m.1 134 6)).toInt ≤ (48 : Int); omega)⟩
  · intro c4
    have k5 := y_nltr (n := 0) rfl c4
    refine ⟨?_, ?_⟩
    · intro c6
      have r7 := w.at (a := 134) (k := 5) rfl
      have k8 := z_le c6
      have r9 := w.at (a := 134) (k := 6) rfl
      exact ⟨w, f, _, rfl, (by show (0 : Int) ≤ ((m.1 134 6)).toInt; omega), (by show ((m.1 134 6)).toInt ≤ (48 : Int); omega)⟩
    · intro c10
      have r11 := w.at (a := 134) (k := 5) rfl
      have k12 := z_nle c10
      refine ⟨?_, ?_⟩
      · exact vpi (by omega) (by omega)
      · have r13 := w.at (a := (134 + 4)) (k := x1.toNatClampNeg) rfl
        exact ⟨w, f, _, rfl, (by show (0 : Int) ≤ ((m.1 (134 + 4) x1.toNatClampNeg)).toInt; omega), (by show ((m.1 (134 + 4) x1.toNatClampNeg)).toInt ≤ (48 : Int); omega)⟩
set_option maxHeartbeats 4000000 in
theorem s_X3_begin_140 {ad : Nat → Nat} {d : Nat} {m : Wm} {x1 : Int32} (w : WT m) : Ct ad μX3_begin d [.ref (ad 140), .int x1] m (fun r m' => WT m' ∧ Fx (RS []) m m' ∧ ∃ v : Int32, r = some (.int v) ∧ (0 : Int) ≤ v.toInt ∧ v.toInt ≤ 48) := by
  have f : Fx (RS []) m m := Fx.rf
  refine v_X3_begin Pl_140 ?_
  refine ⟨?_, ?_⟩
  · intro c1
    have k2 := y_ltr (n := 0) rfl c1
    have r3 := w.at (a := 140) (k := 6) rfl
    exact ⟨w, f, _, rfl, (by show (0 : Int) ≤ ((m.1 140 6)).toInt; omega), (by show ((m.1 140 6)).toInt ≤ (48 : Int); omega)⟩
  · intro c4
    have k5 := y_nltr (n := 0) rfl c4
    refine ⟨?_, ?_⟩
    · intro c6
      have r7 := w.at (a := 140) (k := 5) rfl
      have k8 := z_le c6
      have r9 := w.at (a := 140) (k := 6) rfl
      exact ⟨w, f, _, rfl, (by show (0 : Int) ≤ ((m.1 140 6)).toInt; omega), (by show ((m.1 140 6)).toInt ≤ (48 : Int); omega)⟩
    · intro c10
      have r11 := w.at (a := 140) (k := 5) rfl
      have k12 := z_nle c10
      refine ⟨?_, ?_⟩
      · exact vpi (by omega) (by omega)
      · have r13 := w.at (a := (140 + 4)) (k := x1.toNatClampNeg) rfl
        exact ⟨w, f, _, rfl, (by show (0 : Int) ≤ ((m.1 (140 + 4) x1.toNatClampNeg)).toInt; omega), (by show ((m.1 (140 + 4) x1.toNatClampNeg)).toInt ≤ (48 : Int); omega)⟩
theorem s_X3_begin {ad : Nat → Nat} {d : Nat} {m : Wm} {b0 : Nat} {x1 : Int32} (w : WT m) (hb0 : b0 = 134 ∨ b0 = 140) : Ct ad μX3_begin d [.ref (ad b0), .int x1] m (fun r m' => WT m' ∧ Fx (RS []) m m' ∧ ∃ v : Int32, r = some (.int v) ∧ (0 : Int) ≤ v.toInt ∧ v.toInt ≤ 48) := by
  rcases hb0 with rfl | rfl
  · exact s_X3_begin_134 w
  · exact s_X3_begin_140 w
set_option maxHeartbeats 4000000 in
theorem s_X3_after_134 {ad : Nat → Nat} {d : Nat} {m : Wm} {x1 : Int32} (w : WT m) : Ct ad μX3_after d [.ref (ad 134), .int x1] m (fun r m' => WT m' ∧ Fx (RS []) m m' ∧ ∃ v : Int32, r = some (.int v)) := by
  have f : Fx (RS []) m m := Fx.rf
  refine v_X3_after Pl_134 ?_
  refine ⟨?_, ?_⟩
  · intro c1
    have r2 := w.at (a := 134) (k := 5) rfl
    have k3 := z_le c1
    exact ⟨w, f, _, rfl⟩
  · intro c4
    have r5 := w.at (a := 134) (k := 5) rfl
    have k6 := z_nle c4
    exact ⟨w, f, _, rfl⟩
set_option maxHeartbeats 4000000 in
theorem s_X3_after_140 {ad : Nat → Nat} {d : Nat} {m : Wm} {x1 : Int32} (w : WT m) : Ct ad μX3_after d [.ref (ad 140), .int x1] m (fun r m' => WT m' ∧ Fx (RS []) m m' ∧ ∃ v : Int32, r = some (.int v)) := by
  have f : Fx (RS []) m m := Fx.rf
  refine v_X3_after Pl_140 ?_
  refine ⟨?_, ?_⟩
  · intro c1
    have r2 := w.at (a := 140) (k := 5) rfl
    have k3 := z_le c1
    exact ⟨w, f, _, rfl⟩
  · intro c4
    have r5 := w.at (a := 140) (k := 5) rfl
    have k6 := z_nle c4
    exact ⟨w, f, _, rfl⟩
theorem s_X3_after {ad : Nat → Nat} {d : Nat} {m : Wm} {b0 : Nat} {x1 : Int32} (w : WT m) (hb0 : b0 = 134 ∨ b0 = 140) : Ct ad μX3_after d [.ref (ad b0), .int x1] m (fun r m' => WT m' ∧ Fx (RS []) m m' ∧ ∃ v : Int32, r = some (.int v)) := by
  rcases hb0 with rfl | rfl
  · exact s_X3_after_134 w
  · exact s_X3_after_140 w
set_option maxHeartbeats 4000000 in
theorem l_X3_openRound_134 {ad : Nat → Nat} {d : Nat} {m0 : Wm}  : ∀ n : Nat, (∀ (m : Wm), WT m → Fx (RS [7]) m0 m → ((m.1 134 5).toInt ≤ 12) → ((m.1 134 5).toInt = (m0.1 134 5).toInt) → 0 * (m.1 134 5).toInt < (n : Int) → AW ad E0 μX3_openRound d (fun r m' => WT m' ∧ Fx (RS [7]) m0 m' ∧ r = none ∧ ((m'.1 134 5).toInt = (m0.1 134 5).toInt + 1) ∧ ((m'.1 134 7).toInt = 0)) 22 [(0, .ref (ad 134))] [] m) := by
  intro n
  induction n with
  | zero =>
    intros
    exfalso
    omega
  | succ n ih =>
    intro m  w f j1 j2 hn
    refine g_X3_openRound_22 Pl_134 ?_
    have r2 := w.at (a := 134) (k := 5) rfl
    have t3 := ti_addc (x := (m.1 134 5)) (y := (1 : Int32)) (c := 1) rfl (by omega)
    have w1 : WT (uI m 134 5 ((m.1 134 5) + (1 : Int32))) := w.t rfl (by show (0 : Int) ≤ (((m.1 134 5) + (1 : Int32))).toInt; omega) (by show (((m.1 134 5) + (1 : Int32))).toInt ≤ 13; omega)
    have f1 : Fx (RS [7]) m0 (uI m 134 5 ((m.1 134 5) + (1 : Int32))) := f.i rfl
    have w4 : WT (uI (uI m 134 5 ((m.1 134 5) + (1 : Int32))) 134 8 (0 : Int32)) := w1.n rfl
    have f4 : Fx (RS [7]) m0 (uI (uI m 134 5 ((m.1 134 5) + (1 : Int32))) 134 8 (0 : Int32)) := f1.i rfl
    have w5 : WT (uI (uI (uI m 134 5 ((m.1 134 5) + (1 : Int32))) 134 8 (0 : Int32)) 134 7 (0 : Int32)) := w4.n rfl
    have f5 : Fx (RS [7]) m0 (uI (uI (uI m 134 5 ((m.1 134 5) + (1 : Int32))) 134 8 (0 : Int32)) 134 7 (0 : Int32)) := f4.i rfl
    exact ⟨w5, f5, rfl, (by show (((m.1 134 5) + (1 : Int32))).toInt = (m0.1 134 5).toInt + 1; omega), (by show (0 : Int) = 0; omega)⟩
set_option maxHeartbeats 4000000 in
theorem s_X3_openRound_134 {ad : Nat → Nat} {d : Nat} {m : Wm} (w : WT m) (i1 : (m.1 134 5).toInt ≤ 12) : Ct ad μX3_openRound d [.ref (ad 134)] m (fun r m' => WT m' ∧ Fx (RS [7]) m m' ∧ r = none ∧ ((m'.1 134 5).toInt = (m.1 134 5).toInt + 1) ∧ ((m'.1 134 7).toInt = 0)) := by
  have f : Fx (RS [7]) m m := Fx.rf
  refine v_X3_openRound Pl_134 ?_
  refine ⟨?_, ?_⟩
  · intro c1
    have r2 := w.at (a := 134) (k := 5) rfl
    have k3 := y_lel (n := 12) rfl c1
    exact (l_X3_openRound_134 (m0 := m) 1000000) _ w f (by show ((m.1 134 5)).toInt ≤ 12; omega) (by show ((m.1 134 5)).toInt = (m.1 134 5).toInt; omega) (by show 0 * ((m.1 134 5)).toInt < _; omega)
  · intro c4
    have r5 := w.at (a := 134) (k := 5) rfl
    have k6 := y_nlel (n := 12) rfl c4
    refine ⟨?_, ?_⟩
    · exact vpi (by omega) (by omega)
    · have r8 := w.at (a := 134) (k := 6) rfl
      have w7 : WT (uI m (134 + 4) ((m.1 134 5).toNatClampNeg) (m.1 134 6)) := w.t rfl (by show (0 : Int) ≤ ((m.1 134 6)).toInt; omega) (by show ((m.1 134 6)).toInt ≤ 48; omega)
      have f7 : Fx (RS [7]) m (uI m (134 + 4) ((m.1 134 5).toNatClampNeg) (m.1 134 6)) := f.i rfl
      exact (l_X3_openRound_134 (m0 := m) 1000000) _ w7 f7 (by show ((m.1 134 5)).toInt ≤ 12; omega) (by show ((m.1 134 5)).toInt = (m.1 134 5).toInt; omega) (by show 0 * ((m.1 134 5)).toInt < _; omega)
set_option maxHeartbeats 4000000 in
theorem l_X3_openRound_140 {ad : Nat → Nat} {d : Nat} {m0 : Wm}  : ∀ n : Nat, (∀ (m : Wm), WT m → Fx (RS [7]) m0 m → ((m.1 140 5).toInt ≤ 12) → ((m.1 140 5).toInt = (m0.1 140 5).toInt) → 0 * (m.1 140 5).toInt < (n : Int) → AW ad E0 μX3_openRound d (fun r m' => WT m' ∧ Fx (RS [7]) m0 m' ∧ r = none ∧ ((m'.1 140 5).toInt = (m0.1 140 5).toInt + 1) ∧ ((m'.1 140 7).toInt = 0)) 22 [(0, .ref (ad 140))] [] m) := by
  intro n
  induction n with
  | zero =>
    intros
    exfalso
    omega
  | succ n ih =>
    intro m  w f j1 j2 hn
    refine g_X3_openRound_22 Pl_140 ?_
    have r2 := w.at (a := 140) (k := 5) rfl
    have t3 := ti_addc (x := (m.1 140 5)) (y := (1 : Int32)) (c := 1) rfl (by omega)
    have w1 : WT (uI m 140 5 ((m.1 140 5) + (1 : Int32))) := w.t rfl (by show (0 : Int) ≤ (((m.1 140 5) + (1 : Int32))).toInt; omega) (by show (((m.1 140 5) + (1 : Int32))).toInt ≤ 13; omega)
    have f1 : Fx (RS [7]) m0 (uI m 140 5 ((m.1 140 5) + (1 : Int32))) := f.i rfl
    have w4 : WT (uI (uI m 140 5 ((m.1 140 5) + (1 : Int32))) 140 8 (0 : Int32)) := w1.n rfl
    have f4 : Fx (RS [7]) m0 (uI (uI m 140 5 ((m.1 140 5) + (1 : Int32))) 140 8 (0 : Int32)) := f1.i rfl
    have w5 : WT (uI (uI (uI m 140 5 ((m.1 140 5) + (1 : Int32))) 140 8 (0 : Int32)) 140 7 (0 : Int32)) := w4.n rfl
    have f5 : Fx (RS [7]) m0 (uI (uI (uI m 140 5 ((m.1 140 5) + (1 : Int32))) 140 8 (0 : Int32)) 140 7 (0 : Int32)) := f4.i rfl
    exact ⟨w5, f5, rfl, (by show (((m.1 140 5) + (1 : Int32))).toInt = (m0.1 140 5).toInt + 1; omega), (by show (0 : Int) = 0; omega)⟩
set_option maxHeartbeats 4000000 in
theorem s_X3_openRound_140 {ad : Nat → Nat} {d : Nat} {m : Wm} (w : WT m) (i1 : (m.1 140 5).toInt ≤ 12) : Ct ad μX3_openRound d [.ref (ad 140)] m (fun r m' => WT m' ∧ Fx (RS [7]) m m' ∧ r = none ∧ ((m'.1 140 5).toInt = (m.1 140 5).toInt + 1) ∧ ((m'.1 140 7).toInt = 0)) := by
  have f : Fx (RS [7]) m m := Fx.rf
  refine v_X3_openRound Pl_140 ?_
  refine ⟨?_, ?_⟩
  · intro c1
    have r2 := w.at (a := 140) (k := 5) rfl
    have k3 := y_lel (n := 12) rfl c1
    exact (l_X3_openRound_140 (m0 := m) 1000000) _ w f (by show ((m.1 140 5)).toInt ≤ 12; omega) (by show ((m.1 140 5)).toInt = (m.1 140 5).toInt; omega) (by show 0 * ((m.1 140 5)).toInt < _; omega)
  · intro c4
    have r5 := w.at (a := 140) (k := 5) rfl
    have k6 := y_nlel (n := 12) rfl c4
    refine ⟨?_, ?_⟩
    · exact vpi (by omega) (by omega)
    · have r8 := w.at (a := 140) (k := 6) rfl
      have w7 : WT (uI m (140 + 4) ((m.1 140 5).toNatClampNeg) (m.1 140 6)) := w.t rfl (by show (0 : Int) ≤ ((m.1 140 6)).toInt; omega) (by show ((m.1 140 6)).toInt ≤ 48; omega)
      have f7 : Fx (RS [7]) m (uI m (140 + 4) ((m.1 140 5).toNatClampNeg) (m.1 140 6)) := f.i rfl
      exact (l_X3_openRound_140 (m0 := m) 1000000) _ w7 f7 (by show ((m.1 140 5)).toInt ≤ 12; omega) (by show ((m.1 140 5)).toInt = (m.1 140 5).toInt; omega) (by show 0 * ((m.1 140 5)).toInt < _; omega)
theorem s_X3_openRound {ad : Nat → Nat} {d : Nat} {m : Wm} {b0 : Nat} (w : WT m) (hb0 : b0 = 134 ∨ b0 = 140) (i1 : (m.1 b0 5).toInt ≤ 12) : Ct ad μX3_openRound d [.ref (ad b0)] m (fun r m' => WT m' ∧ Fx (RS [7]) m m' ∧ r = none ∧ ((m'.1 b0 5).toInt = (m.1 b0 5).toInt + 1) ∧ ((m'.1 b0 7).toInt = 0)) := by
  rcases hb0 with rfl | rfl
  · exact s_X3_openRound_134 w i1
  · exact s_X3_openRound_140 w i1
set_option maxHeartbeats 4000000 in
theorem s_X3_addGame_134 {ad : Nat → Nat} {d : Nat} {m : Wm} {x1 x2 x3 : Int32} (w : WT m) (i1 : (0 : Int) ≤ x1.toInt) (i2 : x1.toInt ≤ (7 : Int)) (i3 : (0 : Int) ≤ x2.toInt) (i4 : x2.toInt ≤ (7 : Int)) : Ct ad μX3_addGame d [.ref (ad 134), .int x1, .int x2, .int x3] m (fun r m' => WT m' ∧ Fx (RS [7]) m m' ∧ r = none ∧ ((m'.1 134 5).toInt = (m.1 134 5).toInt)) := by
  have f : Fx (RS [7]) m m := Fx.rf
  refine v_X3_addGame Pl_134 ?_
  refine ⟨?_, ?_⟩
  · intro c1
    have r2 := w.at (a := 134) (k := 6) rfl
    have k3 := y_lel (n := 48) rfl c1
    have r4 := w.at (a := 134) (k := 5) rfl
    exact ⟨w, f, rfl, (by show ((m.1 134 5)).toInt = (m.1 134 5).toInt; omega)⟩
  · intro c5
    have r6 := w.at (a := 134) (k := 6) rfl
    have k7 := y_nlel (n := 48) rfl c5
    refine ⟨?_, ?_⟩
    · exact vpi (by omega) (by omega)
    · refine ⟨?_, ?_⟩
      · show vp_in (m.1 134 6) 48
        exact vpi (by omega) (by omega)
      · refine ⟨?_, ?_⟩
        · show vp_in (m.1 134 6) 48
          exact vpi (by omega) (by omega)
        · have w8 : WT (uI m (134 + 1) ((m.1 134 6).toNatClampNeg) x1) := w.t rfl (by show (0 : Int) ≤ (x1).toInt; omega) (by show (x1).toInt ≤ 7; omega)
          have f8 : Fx (RS [7]) m (uI m (134 + 1) ((m.1 134 6).toNatClampNeg) x1) := f.i rfl
          have w9 : WT (uI (uI m (134 + 1) ((m.1 134 6).toNatClampNeg) x1) (134 + 2) (((uI m (134 + 1) ((m.1 134 6).toNatClampNeg) x1).1 134 6).toNatClampNeg) x2) := w8.t rfl (by show (0 : Int) ≤ (x2).toInt; omega) (by show (x2).toInt ≤ 7; omega)
          have f9 : Fx (RS [7]) m (uI (uI m (134 + 1) ((m.1 134 6).toNatClampNeg) x1) (134 + 2) (((uI m (134 + 1) ((m.1 134 6).toNatClampNeg) x1).1 134 6).toNatClampNeg) x2) := f8.i rfl
          have w10 : WT (uI (uI (uI m (134 + 1) ((m.1 134 6).toNatClampNeg) x1) (134 + 2) (((uI m (134 + 1) ((m.1 134 6).toNatClampNeg) x1).1 134 6).toNatClampNeg) x2) (134 + 3) (((uI (uI m (134 + 1) ((m.1 134 6).toNatClampNeg) x1) (134 + 2) (((uI m (134 + 1) ((m.1 134 6).toNatClampNeg) x1).1 134 6).toNatClampNeg) x2).1 134 6).toNatClampNeg) x3) := w9.n rfl
          have f10 : Fx (RS [7]) m (uI (uI (uI m (134 + 1) ((m.1 134 6).toNatClampNeg) x1) (134 + 2) (((uI m (134 + 1) ((m.1 134 6).toNatClampNeg) x1).1 134 6).toNatClampNeg) x2) (134 + 3) (((uI (uI m (134 + 1) ((m.1 134 6).toNatClampNeg) x1) (134 + 2) (((uI m (134 + 1) ((m.1 134 6).toNatClampNeg) x1).1 134 6).toNatClampNeg) x2).1 134 6).toNatClampNeg) x3) := f9.i rfl
          have t12 := ti_addc (x := (m.1 134 6)) (y := (1 : Int32)) (c := 1) rfl (by omega)
          have w11 : WT (uI (uI (uI (uI m (134 + 1) ((m.1 134 6).toNatClampNeg) x1) (134 + 2) (((uI m (134 + 1) ((m.1 134 6).toNatClampNeg) x1).1 134 6).toNatClampNeg) x2) (134 + 3) (((uI (uI m (134 + 1) ((m.1 134 6).toNatClampNeg) x1) (134 + 2) (((uI m (134 + 1) ((m.1 134 6).toNatClampNeg) x1).1 134 6).toNatClampNeg) x2).1 134 6).toNatClampNeg) x3) 134 6 (((uI (uI (uI m (134 + 1) ((m.1 134 6).toNatClampNeg) x1) (134 + 2) (((uI m (134 + 1) ((m.1 134 6).toNatClampNeg) x1).1 134 6).toNatClampNeg) x2) (134 + 3) (((uI (uI m (134 + 1) ((m.1 134 6).toNatClampNeg) x1) (134 + 2) (((uI m (134 + 1) ((m.1 134 6).toNatClampNeg) x1).1 134 6).toNatClampNeg) x2).1 134 6).toNatClampNeg) x3).1 134 6) + (1 : Int32))) := w10.t rfl (by show (0 : Int) ≤ (((m.1 134 6) + (1 : Int32))).toInt; omega) (by show (((m.1 134 6) + (1 : Int32))).toInt ≤ 48; omega)
          have f11 : Fx (RS [7]) m (uI (uI (uI (uI m (134 + 1) ((m.1 134 6).toNatClampNeg) x1) (134 + 2) (((uI m (134 + 1) ((m.1 134 6).toNatClampNeg) x1).1 134 6).toNatClampNeg) x2) (134 + 3) (((uI (uI m (134 + 1) ((m.1 134 6).toNatClampNeg) x1) (134 + 2) (((uI m (134 + 1) ((m.1 134 6).toNatClampNeg) x1).1 134 6).toNatClampNeg) x2).1 134 6).toNatClampNeg) x3) 134 6 (((uI (uI (uI m (134 + 1) ((m.1 134 6).toNatClampNeg) x1) (134 + 2) (((uI m (134 + 1) ((m.1 134 6).toNatClampNeg) x1).1 134 6).toNatClampNeg) x2) (134 + 3) (((uI (uI m (134 + 1) ((m.1 134 6).toNatClampNeg) x1) (134 + 2) (((uI m (134 + 1) ((m.1 134 6).toNatClampNeg) x1).1 134 6).toNatClampNeg) x2).1 134 6).toNatClampNeg) x3).1 134 6) + (1 : Int32))) := f10.i rfl
          have r13 := w.at (a := 134) (k := 5) rfl
          exact ⟨w11, f11, rfl, (by show ((m.1 134 5)).toInt = (m.1 134 5).toInt; omega)⟩
set_option maxHeartbeats 4000000 in
theorem s_X3_addGame_140 {ad : Nat → Nat} {d : Nat} {m : Wm} {x1 x2 x3 : Int32} (w : WT m) (i1 : (0 : Int) ≤ x1.toInt) (i2 : x1.toInt ≤ (7 : Int)) (i3 : (0 : Int) ≤ x2.toInt) (i4 : x2.toInt ≤ (7 : Int)) : Ct ad μX3_addGame d [.ref (ad 140), .int x1, .int x2, .int x3] m (fun r m' => WT m' ∧ Fx (RS [7]) m m' ∧ r = none ∧ ((m'.1 140 5).toInt = (m.1 140 5).toInt)) := by
  have f : Fx (RS [7]) m m := Fx.rf
  refine v_X3_addGame Pl_140 ?_
  refine ⟨?_, ?_⟩
  · intro c1
    have r2 := w.at (a := 140) (k := 6) rfl
    have k3 := y_lel (n := 48) rfl c1
    have r4 := w.at (a := 140) (k := 5) rfl
    exact ⟨w, f, rfl, (by show ((m.1 140 5)).toInt = (m.1 140 5).toInt; omega)⟩
  · intro c5
    have r6 := w.at (a := 140) (k := 6) rfl
    have k7 := y_nlel (n := 48) rfl c5
    refine ⟨?_, ?_⟩
    · exact vpi (by omega) (by omega)
    · refine ⟨?_, ?_⟩
      · show vp_in (m.1 140 6) 48
        exact vpi (by omega) (by omega)
      · refine ⟨?_, ?_⟩
        · show vp_in (m.1 140 6) 48
          exact vpi (by omega) (by omega)
        · have w8 : WT (uI m (140 + 1) ((m.1 140 6).toNatClampNeg) x1) := w.t rfl (by show (0 : Int) ≤ (x1).toInt; omega) (by show (x1).toInt ≤ 7; omega)
          have f8 : Fx (RS [7]) m (uI m (140 + 1) ((m.1 140 6).toNatClampNeg) x1) := f.i rfl
          have w9 : WT (uI (uI m (140 + 1) ((m.1 140 6).toNatClampNeg) x1) (140 + 2) (((uI m (140 + 1) ((m.1 140 6).toNatClampNeg) x1).1 140 6).toNatClampNeg) x2) := w8.t rfl (by show (0 : Int) ≤ (x2).toInt; omega) (by show (x2).toInt ≤ 7; omega)
          have f9 : Fx (RS [7]) m (uI (uI m (140 + 1) ((m.1 140 6).toNatClampNeg) x1) (140 + 2) (((uI m (140 + 1) ((m.1 140 6).toNatClampNeg) x1).1 140 6).toNatClampNeg) x2) := f8.i rfl
          have w10 : WT (uI (uI (uI m (140 + 1) ((m.1 140 6).toNatClampNeg) x1) (140 + 2) (((uI m (140 + 1) ((m.1 140 6).toNatClampNeg) x1).1 140 6).toNatClampNeg) x2) (140 + 3) (((uI (uI m (140 + 1) ((m.1 140 6).toNatClampNeg) x1) (140 + 2) (((uI m (140 + 1) ((m.1 140 6).toNatClampNeg) x1).1 140 6).toNatClampNeg) x2).1 140 6).toNatClampNeg) x3) := w9.n rfl
          have f10 : Fx (RS [7]) m (uI (uI (uI m (140 + 1) ((m.1 140 6).toNatClampNeg) x1) (140 + 2) (((uI m (140 + 1) ((m.1 140 6).toNatClampNeg) x1).1 140 6).toNatClampNeg) x2) (140 + 3) (((uI (uI m (140 + 1) ((m.1 140 6).toNatClampNeg) x1) (140 + 2) (((uI m (140 + 1) ((m.1 140 6).toNatClampNeg) x1).1 140 6).toNatClampNeg) x2).1 140 6).toNatClampNeg) x3) := f9.i rfl
          have t12 := ti_addc (x := (m.1 140 6)) (y := (1 : Int32)) (c := 1) rfl (by omega)
          have w11 : WT (uI (uI (uI (uI m (140 + 1) ((m.1 140 6).toNatClampNeg) x1) (140 + 2) (((uI m (140 + 1) ((m.1 140 6).toNatClampNeg) x1).1 140 6).toNatClampNeg) x2) (140 + 3) (((uI (uI m (140 + 1) ((m.1 140 6).toNatClampNeg) x1) (140 + 2) (((uI m (140 + 1) ((m.1 140 6).toNatClampNeg) x1).1 140 6).toNatClampNeg) x2).1 140 6).toNatClampNeg) x3) 140 6 (((uI (uI (uI m (140 + 1) ((m.1 140 6).toNatClampNeg) x1) (140 + 2) (((uI m (140 + 1) ((m.1 140 6).toNatClampNeg) x1).1 140 6).toNatClampNeg) x2) (140 + 3) (((uI (uI m (140 + 1) ((m.1 140 6).toNatClampNeg) x1) (140 + 2) (((uI m (140 + 1) ((m.1 140 6).toNatClampNeg) x1).1 140 6).toNatClampNeg) x2).1 140 6).toNatClampNeg) x3).1 140 6) + (1 : Int32))) := w10.t rfl (by show (0 : Int) ≤ (((m.1 140 6) + (1 : Int32))).toInt; omega) (by show (((m.1 140 6) + (1 : Int32))).toInt ≤ 48; omega)
          have f11 : Fx (RS [7]) m (uI (uI (uI (uI m (140 + 1) ((m.1 140 6).toNatClampNeg) x1) (140 + 2) (((uI m (140 + 1) ((m.1 140 6).toNatClampNeg) x1).1 140 6).toNatClampNeg) x2) (140 + 3) (((uI (uI m (140 + 1) ((m.1 140 6).toNatClampNeg) x1) (140 + 2) (((uI m (140 + 1) ((m.1 140 6).toNatClampNeg) x1).1 140 6).toNatClampNeg) x2).1 140 6).toNatClampNeg) x3) 140 6 (((uI (uI (uI m (140 + 1) ((m.1 140 6).toNatClampNeg) x1) (140 + 2) (((uI m (140 + 1) ((m.1 140 6).toNatClampNeg) x1).1 140 6).toNatClampNeg) x2) (140 + 3) (((uI (uI m (140 + 1) ((m.1 140 6).toNatClampNeg) x1) (140 + 2) (((uI m (140 + 1) ((m.1 140 6).toNatClampNeg) x1).1 140 6).toNatClampNeg) x2).1 140 6).toNatClampNeg) x3).1 140 6) + (1 : Int32))) := f10.i rfl
          have r13 := w.at (a := 140) (k := 5) rfl
          exact ⟨w11, f11, rfl, (by show ((m.1 140 5)).toInt = (m.1 140 5).toInt; omega)⟩
theorem s_X3_addGame {ad : Nat → Nat} {d : Nat} {m : Wm} {b0 : Nat} {x1 x2 x3 : Int32} (w : WT m) (hb0 : b0 = 134 ∨ b0 = 140) (i1 : (0 : Int) ≤ x1.toInt) (i2 : x1.toInt ≤ (7 : Int)) (i3 : (0 : Int) ≤ x2.toInt) (i4 : x2.toInt ≤ (7 : Int)) : Ct ad μX3_addGame d [.ref (ad b0), .int x1, .int x2, .int x3] m (fun r m' => WT m' ∧ Fx (RS [7]) m m' ∧ r = none ∧ ((m'.1 b0 5).toInt = (m.1 b0 5).toInt)) := by
  rcases hb0 with rfl | rfl
  · exact s_X3_addGame_134 w i1 i2 i3 i4
  · exact s_X3_addGame_140 w i1 i2 i3 i4
set_option maxHeartbeats 4000000 in
theorem s_X3_takeDash_134 {ad : Nat → Nat} {d : Nat} {m : Wm} {x1 : Int32} (w : WT m) (i1 : (m.1 134 5).toInt ≤ 12) : Ct ad μX3_takeDash d [.ref (ad 134), .int x1] m (fun r m' => WT m' ∧ Fx (RS [7]) m m' ∧ ∃ v : Int32, r = some (.int v) ∧ (0 : Int) ≤ v.toInt ∧ v.toInt ≤ 1 ∧ ((m'.1 134 5).toInt ≤ 12)) := by
  have f : Fx (RS [7]) m m := Fx.rf
  refine v_X3_takeDash Pl_134 ?_
  refine ⟨?_, ?_⟩
  · intro c1
    have k2 := y_eqr (n := 45) rfl c1
    have w3 : WT (uI m 134 7 (3 : Int32)) := w.n rfl
    have f3 : Fx (RS [7]) m (uI m 134 7 (3 : Int32)) := f.i rfl
    have r4 := w.at (a := 134) (k := 5) rfl
    exact ⟨w3, f3, _, rfl, (by show (0 : Int) ≤ (1 : Int); omega), (by show (1 : Int) ≤ (1 : Int); omega), (by show ((m.1 134 5)).toInt ≤ 12; omega)⟩
  · intro c5
    have k6 := y_ner (n := 45) rfl c5
    have r7 := w.at (a := 134) (k := 5) rfl
    exact ⟨w, f, _, rfl, (by show (0 : Int) ≤ (0 : Int); omega), (by show (0 : Int) ≤ (1 : Int); omega), (by show ((m.1 134 5)).toInt ≤ 12; omega)⟩
set_option maxHeartbeats 4000000 in
theorem s_X3_takeDash_140 {ad : Nat → Nat} {d : Nat} {m : Wm} {x1 : Int32} (w : WT m) (i1 : (m.1 140 5).toInt ≤ 12) : Ct ad μX3_takeDash d [.ref (ad 140), .int x1] m (fun r m' => WT m' ∧ Fx (RS [7]) m m' ∧ ∃ v : Int32, r = some (.int v) ∧ (0 : Int) ≤ v.toInt ∧ v.toInt ≤ 1 ∧ ((m'.1 140 5).toInt ≤ 12)) := by
  have f : Fx (RS [7]) m m := Fx.rf
  refine v_X3_takeDash Pl_140 ?_
  refine ⟨?_, ?_⟩
  · intro c1
    have k2 := y_eqr (n := 45) rfl c1
    have w3 : WT (uI m 140 7 (3 : Int32)) := w.n rfl
    have f3 : Fx (RS [7]) m (uI m 140 7 (3 : Int32)) := f.i rfl
    have r4 := w.at (a := 140) (k := 5) rfl
    exact ⟨w3, f3, _, rfl, (by show (0 : Int) ≤ (1 : Int); omega), (by show (1 : Int) ≤ (1 : Int); omega), (by show ((m.1 140 5)).toInt ≤ 12; omega)⟩
  · intro c5
    have k6 := y_ner (n := 45) rfl c5
    have r7 := w.at (a := 140) (k := 5) rfl
    exact ⟨w, f, _, rfl, (by show (0 : Int) ≤ (0 : Int); omega), (by show (0 : Int) ≤ (1 : Int); omega), (by show ((m.1 140 5)).toInt ≤ 12; omega)⟩
theorem s_X3_takeDash {ad : Nat → Nat} {d : Nat} {m : Wm} {b0 : Nat} {x1 : Int32} (w : WT m) (hb0 : b0 = 134 ∨ b0 = 140) (i1 : (m.1 b0 5).toInt ≤ 12) : Ct ad μX3_takeDash d [.ref (ad b0), .int x1] m (fun r m' => WT m' ∧ Fx (RS [7]) m m' ∧ ∃ v : Int32, r = some (.int v) ∧ (0 : Int) ≤ v.toInt ∧ v.toInt ≤ 1 ∧ ((m'.1 b0 5).toInt ≤ 12)) := by
  rcases hb0 with rfl | rfl
  · exact s_X3_takeDash_134 w i1
  · exact s_X3_takeDash_140 w i1
set_option maxHeartbeats 4000000 in
theorem s_X3_takeThrow_134 {ad : Nat → Nat} {d : Nat} {m : Wm} {x1 x2 x3 : Int32} (w : WT m) (i1 : (m.1 134 5).toInt ≤ 12) : Ct ad μX3_takeThrow d [.ref (ad 134), .int x1, .int x2, .int x3] m (fun r m' => WT m' ∧ Fx (RS [7]) m m' ∧ ∃ v : Int32, r = some (.int v) ∧ (0 : Int) ≤ v.toInt ∧ v.toInt ≤ 1 ∧ ((m'.1 134 5).toInt ≤ 12)) := by
  have f : Fx (RS [7]) m m := Fx.rf
  refine v_X3_takeThrow Pl_134 ?_
  refine ⟨?_, ?_⟩
  · intro c1
    have k2 := y_eqr (n := 33) rfl c1
    refine ⟨?_, ?_⟩
    · intro c3
      have r4 := w.at (a := 134) (k := 6) rfl
      have k5 := y_ler (n := 0) rfl c3
      have w6 : WT (uI m 134 7 x3) := w.n rfl
      have f6 : Fx (RS [7]) m (uI m 134 7 x3) := f.i rfl
      have r7 := w.at (a := 134) (k := 5) rfl
      exact ⟨w6, f6, _, rfl, (by show (0 : Int) ≤ (1 : Int); omega), (by show (1 : Int) ≤ (1 : Int); omega), (by show ((m.1 134 5)).toInt ≤ 12; omega)⟩
    · intro c8
      have r9 := w.at (a := 134) (k := 6) rfl
      have k10 := y_nler (n := 0) rfl c8
      refine ⟨?_, ?_⟩
      · have t11 := ti_subc (x := (m.1 134 6)) (y := (1 : Int32)) (c := 1) rfl (by omega)
        exact vpi (by omega) (by omega)
      · refine ⟨?_, ?_⟩
        · have t12 := ti_subc (x := (m.1 134 6)) (y := (1 : Int32)) (c := 1) rfl (by omega)
          exact vpi (by omega) (by omega)
        · have w13 : WT (uI m (134 + 3) (((m.1 134 6) - (1 : Int32)).toNatClampNeg) ((m.1 (134 + 3) (((m.1 134 6) - (1 : Int32)).toNatClampNeg)) ||| x2)) := w.n rfl
          have f13 : Fx (RS [7]) m (uI m (134 + 3) (((m.1 134 6) - (1 : Int32)).toNatClampNeg) ((m.1 (134 + 3) (((m.1 134 6) - (1 : Int32)).toNatClampNeg)) ||| x2)) := f.i rfl
          have w14 : WT (uI (uI m (134 + 3) (((m.1 134 6) - (1 : Int32)).toNatClampNeg) ((m.1 (134 + 3) (((m.1 134 6) - (1 : Int32)).toNatClampNeg)) ||| x2)) 134 7 x3) := w13.n rfl
          have f14 : Fx (RS [7]) m (uI (uI m (134 + 3) (((m.1 134 6) - (1 : Int32)).toNatClampNeg) ((m.1 (134 + 3) (((m.1 134 6) - (1 : Int32)).toNatClampNeg)) ||| x2)) 134 7 x3) := f13.i rfl
          have r15 := w.at (a := 134) (k := 5) rfl
          exact ⟨w14, f14, _, rfl, (by show (0 : Int) ≤ (1 : Int); omega), (by show (1 : Int) ≤ (1 : Int); omega), (by show ((m.1 134 5)).toInt ≤ 12; omega)⟩
  · intro c16
    have k17 := y_ner (n := 33) rfl c16
    have r18 := w.at (a := 134) (k := 5) rfl
    exact ⟨w, f, _, rfl, (by show (0 : Int) ≤ (0 : Int); omega), (by show (0 : Int) ≤ (1 : Int); omega), (by show ((m.1 134 5)).toInt ≤ 12; omega)⟩
set_option maxHeartbeats 4000000 in
theorem s_X3_takeThrow_140 {ad : Nat → Nat} {d : Nat} {m : Wm} {x1 x2 x3 : Int32} (w : WT m) (i1 : (m.1 140 5).toInt ≤ 12) : Ct ad μX3_takeThrow d [.ref (ad 140), .int x1, .int x2, .int x3] m (fun r m' => WT m' ∧ Fx (RS [7]) m m' ∧ ∃ v : Int32, r = some (.int v) ∧ (0 : Int) ≤ v.toInt ∧ v.toInt ≤ 1 ∧ ((m'.1 140 5).toInt ≤ 12)) := by
  have f : Fx (RS [7]) m m := Fx.rf
  refine v_X3_takeThrow Pl_140 ?_
  refine ⟨?_, ?_⟩
  · intro c1
    have k2 := y_eqr (n := 33) rfl c1
    refine ⟨?_, ?_⟩
    · intro c3
      have r4 := w.at (a := 140) (k := 6) rfl
      have k5 := y_ler (n := 0) rfl c3
      have w6 : WT (uI m 140 7 x3) := w.n rfl
      have f6 : Fx (RS [7]) m (uI m 140 7 x3) := f.i rfl
      have r7 := w.at (a := 140) (k := 5) rfl
      exact ⟨w6, f6, _, rfl, (by show (0 : Int) ≤ (1 : Int); omega), (by show (1 : Int) ≤ (1 : Int); omega), (by show ((m.1 140 5)).toInt ≤ 12; omega)⟩
    · intro c8
      have r9 := w.at (a := 140) (k := 6) rfl
      have k10 := y_nler (n := 0) rfl c8
      refine ⟨?_, ?_⟩
      · have t11 := ti_subc (x := (m.1 140 6)) (y := (1 : Int32)) (c := 1) rfl (by omega)
        exact vpi (by omega) (by omega)
      · refine ⟨?_, ?_⟩
        · have t12 := ti_subc (x := (m.1 140 6)) (y := (1 : Int32)) (c := 1) rfl (by omega)
          exact vpi (by omega) (by omega)
        · have w13 : WT (uI m (140 + 3) (((m.1 140 6) - (1 : Int32)).toNatClampNeg) ((m.1 (140 + 3) (((m.1 140 6) - (1 : Int32)).toNatClampNeg)) ||| x2)) := w.n rfl
          have f13 : Fx (RS [7]) m (uI m (140 + 3) (((m.1 140 6) - (1 : Int32)).toNatClampNeg) ((m.1 (140 + 3) (((m.1 140 6) - (1 : Int32)).toNatClampNeg)) ||| x2)) := f.i rfl
          have w14 : WT (uI (uI m (140 + 3) (((m.1 140 6) - (1 : Int32)).toNatClampNeg) ((m.1 (140 + 3) (((m.1 140 6) - (1 : Int32)).toNatClampNeg)) ||| x2)) 140 7 x3) := w13.n rfl
          have f14 : Fx (RS [7]) m (uI (uI m (140 + 3) (((m.1 140 6) - (1 : Int32)).toNatClampNeg) ((m.1 (140 + 3) (((m.1 140 6) - (1 : Int32)).toNatClampNeg)) ||| x2)) 140 7 x3) := f13.i rfl
          have r15 := w.at (a := 140) (k := 5) rfl
          exact ⟨w14, f14, _, rfl, (by show (0 : Int) ≤ (1 : Int); omega), (by show (1 : Int) ≤ (1 : Int); omega), (by show ((m.1 140 5)).toInt ≤ 12; omega)⟩
  · intro c16
    have k17 := y_ner (n := 33) rfl c16
    have r18 := w.at (a := 140) (k := 5) rfl
    exact ⟨w, f, _, rfl, (by show (0 : Int) ≤ (0 : Int); omega), (by show (0 : Int) ≤ (1 : Int); omega), (by show ((m.1 140 5)).toInt ≤ 12; omega)⟩
theorem s_X3_takeThrow {ad : Nat → Nat} {d : Nat} {m : Wm} {b0 : Nat} {x1 x2 x3 : Int32} (w : WT m) (hb0 : b0 = 134 ∨ b0 = 140) (i1 : (m.1 b0 5).toInt ≤ 12) : Ct ad μX3_takeThrow d [.ref (ad b0), .int x1, .int x2, .int x3] m (fun r m' => WT m' ∧ Fx (RS [7]) m m' ∧ ∃ v : Int32, r = some (.int v) ∧ (0 : Int) ≤ v.toInt ∧ v.toInt ≤ 1 ∧ ((m'.1 b0 5).toInt ≤ 12)) := by
  rcases hb0 with rfl | rfl
  · exact s_X3_takeThrow_134 w i1
  · exact s_X3_takeThrow_140 w i1
set_option maxHeartbeats 4000000 in
theorem s_X3_takeBreak_134 {ad : Nat → Nat} {d : Nat} {m : Wm} {x1 : Int32} (w : WT m) (i1 : (m.1 134 5).toInt ≤ 12) : Ct ad μX3_takeBreak (d + 1) [.ref (ad 134), .int x1] m (fun r m' => WT m' ∧ Fx (RS [7]) m m' ∧ ∃ v : Int32, r = some (.int v) ∧ (0 : Int) ≤ v.toInt ∧ v.toInt ≤ 1 ∧ ((m'.1 134 5).toInt ≤ 12 ∨ (m'.1 134 7).toInt = 0)) := by
  have f : Fx (RS [7]) m m := Fx.rf
  refine v_X3_takeBreak Pl_134 ?_
  refine ⟨?_, ?_⟩
  · intro c1
    have k2 := y_ner (n := 59) rfl c1
    refine ⟨?_, ?_⟩
    · intro c3
      have k4 := y_ner (n := 44) rfl c3
      have w5 : WT (uI m 134 7 (0 : Int32)) := w.n rfl
      have f5 : Fx (RS [7]) m (uI m 134 7 (0 : Int32)) := f.i rfl
      have r6 := w.at (a := 134) (k := 5) rfl
      exact ⟨w5, f5, _, rfl, (by show (0 : Int) ≤ (0 : Int); omega), (by show (0 : Int) ≤ (1 : Int); omega), (by show ((m.1 134 5)).toInt ≤ 12 ∨ (0 : Int) = 0; omega)⟩
    · intro c7
      have k8 := y_eqr (n := 44) rfl c7
      have w9 : WT (uI m 134 7 (0 : Int32)) := w.n rfl
      have f9 : Fx (RS [7]) m (uI m 134 7 (0 : Int32)) := f.i rfl
      have r10 := w.at (a := 134) (k := 5) rfl
      exact ⟨w9, f9, _, rfl, (by show (0 : Int) ≤ (1 : Int); omega), (by show (1 : Int) ≤ (1 : Int); omega), (by show ((m.1 134 5)).toInt ≤ 12 ∨ (0 : Int) = 0; omega)⟩
  · intro c11
    have k12 := y_eqr (n := 59) rfl c11
    have r13 := w.at (a := 134) (k := 5) rfl
    refine (s_X3_openRound w (Or.inl rfl) (by show ((m.1 134 5)).toInt ≤ 12; omega)).to ?_
    rintro _ m1 ⟨w_m1, g14, rfl, p15, p16⟩
    have f_m1 : Fx (RS [7]) m m1 := f.tr g14 (RS_sub rfl)
    have p17 : (m1.1 134 5).toInt = ((m.1 134 5)).toInt + 1 := p15
    clear p15
    have p18 : (m1.1 134 7).toInt = 0 := p16
    clear p16
    refine ⟨rfl, ?_⟩
    have r19 := w_m1.at (a := 134) (k := 5) rfl
    exact ⟨w_m1, f_m1, _, rfl, (by show (0 : Int) ≤ (1 : Int); omega), (by show (1 : Int) ≤ (1 : Int); omega), (by show ((m1.1 134 5)).toInt ≤ 12 ∨ ((m1.1 134 7)).toInt = 0; omega)⟩
set_option maxHeartbeats 4000000 in
theorem s_X3_takeBreak_140 {ad : Nat → Nat} {d : Nat} {m : Wm} {x1 : Int32} (w : WT m) (i1 : (m.1 140 5).toInt ≤ 12) : Ct ad μX3_takeBreak (d + 1) [.ref (ad 140), .int x1] m (fun r m' => WT m' ∧ Fx (RS [7]) m m' ∧ ∃ v : Int32, r = some (.int v) ∧ (0 : Int) ≤ v.toInt ∧ v.toInt ≤ 1 ∧ ((m'.1 140 5).toInt ≤ 12 ∨ (m'.1 140 7).toInt = 0)) := by
  have f : Fx (RS [7]) m m := Fx.rf
  refine v_X3_takeBreak Pl_140 ?_
  refine ⟨?_, ?_⟩
  · intro c1
    have k2 := y_ner (n := 59) rfl c1
    refine ⟨?_, ?_⟩
    · intro c3
      have k4 := y_ner (n := 44) rfl c3
      have w5 : WT (uI m 140 7 (0 : Int32)) := w.n rfl
      have f5 : Fx (RS [7]) m (uI m 140 7 (0 : Int32)) := f.i rfl
      have r6 := w.at (a := 140) (k := 5) rfl
      exact ⟨w5, f5, _, rfl, (by show (0 : Int) ≤ (0 : Int); omega), (by show (0 : Int) ≤ (1 : Int); omega), (by show ((m.1 140 5)).toInt ≤ 12 ∨ (0 : Int) = 0; omega)⟩
    · intro c7
      have k8 := y_eqr (n := 44) rfl c7
      have w9 : WT (uI m 140 7 (0 : Int32)) := w.n rfl
      have f9 : Fx (RS [7]) m (uI m 140 7 (0 : Int32)) := f.i rfl
      have r10 := w.at (a := 140) (k := 5) rfl
      exact ⟨w9, f9, _, rfl, (by show (0 : Int) ≤ (1 : Int); omega), (by show (1 : Int) ≤ (1 : Int); omega), (by show ((m.1 140 5)).toInt ≤ 12 ∨ (0 : Int) = 0; omega)⟩
  · intro c11
    have k12 := y_eqr (n := 59) rfl c11
    have r13 := w.at (a := 140) (k := 5) rfl
    refine (s_X3_openRound w (Or.inr rfl) (by show ((m.1 140 5)).toInt ≤ 12; omega)).to ?_
    rintro _ m1 ⟨w_m1, g14, rfl, p15, p16⟩
    have f_m1 : Fx (RS [7]) m m1 := f.tr g14 (RS_sub rfl)
    have p17 : (m1.1 140 5).toInt = ((m.1 140 5)).toInt + 1 := p15
    clear p15
    have p18 : (m1.1 140 7).toInt = 0 := p16
    clear p16
    refine ⟨rfl, ?_⟩
    have r19 := w_m1.at (a := 140) (k := 5) rfl
    exact ⟨w_m1, f_m1, _, rfl, (by show (0 : Int) ≤ (1 : Int); omega), (by show (1 : Int) ≤ (1 : Int); omega), (by show ((m1.1 140 5)).toInt ≤ 12 ∨ ((m1.1 140 7)).toInt = 0; omega)⟩
theorem s_X3_takeBreak {ad : Nat → Nat} {d : Nat} {m : Wm} {b0 : Nat} {x1 : Int32} (w : WT m) (hb0 : b0 = 134 ∨ b0 = 140) (i1 : (m.1 b0 5).toInt ≤ 12) : Ct ad μX3_takeBreak (d + 1) [.ref (ad b0), .int x1] m (fun r m' => WT m' ∧ Fx (RS [7]) m m' ∧ ∃ v : Int32, r = some (.int v) ∧ (0 : Int) ≤ v.toInt ∧ v.toInt ≤ 1 ∧ ((m'.1 b0 5).toInt ≤ 12 ∨ (m'.1 b0 7).toInt = 0)) := by
  rcases hb0 with rfl | rfl
  · exact s_X3_takeBreak_134 w i1
  · exact s_X3_takeBreak_140 w i1
set_option maxHeartbeats 4000000 in
theorem s_X3_takeSide_134 {ad : Nat → Nat} {d : Nat} {m : Wm} {x1 x2 : Int32} (w : WT m) (i1 : (0 : Int) ≤ x2.toInt) (i2 : x2.toInt ≤ (8 : Int)) (i3 : (m.1 134 5).toInt ≤ 12) : Ct ad μX3_takeSide (d + 1) [.ref (ad 134), .int x1, .int x2] m (fun r m' => WT m' ∧ Fx (RS [7]) m m' ∧ ∃ v : Int32, r = some (.int v) ∧ (0 : Int) ≤ v.toInt ∧ v.toInt ≤ 1 ∧ ((m'.1 134 5).toInt ≤ 12)) := by
  have f : Fx (RS [7]) m m := Fx.rf
  refine v_X3_takeSide Pl_134 ?_
  refine ⟨?_, ?_⟩
  · intro c1
    have k2 := y_ltr (n := 0) rfl c1
    have r3 := w.at (a := 134) (k := 5) rfl
    exact ⟨w, f, _, rfl, (by show (0 : Int) ≤ (0 : Int); omega), (by show (0 : Int) ≤ (1 : Int); omega), (by show ((m.1 134 5)).toInt ≤ 12; omega)⟩
  · intro c4
    have k5 := y_nltr (n := 0) rfl c4
    refine ⟨?_, ?_⟩
    · intro c6
      have k7 := z_le c6
      have r8 := w.at (a := 134) (k := 5) rfl
      exact ⟨w, f, _, rfl, (by show (0 : Int) ≤ (0 : Int); omega), (by show (0 : Int) ≤ (1 : Int); omega), (by show ((m.1 134 5)).toInt ≤ 12; omega)⟩
    · intro c9
      have k10 := z_nle c9
      refine ⟨?_, ?_⟩
      · intro c11
        have t12 := t_and1 ((m.1 134 8) >>> (x1 &&& 31))
        have k13 := y_eqr (n := 0) rfl c11
        refine ⟨?_, ?_⟩
        · intro c14
          have c15 : ¬ (m.1 134 7) = (0 : Int32) := c14
          have k16 := y_ner (n := 0) rfl c15
          refine ⟨?_, ?_⟩
          · intro c17
            have r18 := w.at (a := 134) (k := 6) rfl
            have c19 : (m.1 134 6) ≤ (0 : Int32) := c17
            have k20 := y_ler (n := 0) rfl c19
            have w21 : WT (uI m 134 8 ((m.1 134 8) ||| ((1 : Int32) <<< (x1 &&& 31)))) := w.n rfl
            have f21 : Fx (RS [7]) m (uI m 134 8 ((m.1 134 8) ||| ((1 : Int32) <<< (x1 &&& 31)))) := f.i rfl
            have w22 : WT (uI (uI m 134 8 ((m.1 134 8) ||| ((1 : Int32) <<< (x1 &&& 31)))) 134 7 (4 : Int32)) := w21.n rfl
            have f22 : Fx (RS [7]) m (uI (uI m 134 8 ((m.1 134 8) ||| ((1 : Int32) <<< (x1 &&& 31)))) 134 7 (4 : Int32)) := f21.i rfl
            have r23 := w.at (a := 134) (k := 5) rfl
            exact ⟨w22, f22, _, rfl, (by show (0 : Int) ≤ (1 : Int); omega), (by show (1 : Int) ≤ (1 : Int); omega), (by show ((m.1 134 5)).toInt ≤ 12; omega)⟩
          · intro c24
            have r25 := w.at (a := 134) (k := 6) rfl
            have c26 : ¬ (m.1 134 6) ≤ (0 : Int32) := c24
            have k27 := y_nler (n := 0) rfl c26
            refine ⟨?_, ?_⟩
            · have t28 := ti_subc (x := (m.1 134 6)) (y := (1 : Int32)) (c := 1) rfl (by omega)
              show vp_in ((m.1 134 6) - (1 : Int32)) 48
              exact vpi (by omega) (by omega)
            · have w29 : WT (uI m 134 8 ((m.1 134 8) ||| ((1 : Int32) <<< (x1 &&& 31)))) := w.n rfl
              have f29 : Fx (RS [7]) m (uI m 134 8 ((m.1 134 8) ||| ((1 : Int32) <<< (x1 &&& 31)))) := f.i rfl
              have w30 : WT (uI (uI m 134 8 ((m.1 134 8) ||| ((1 : Int32) <<< (x1 &&& 31)))) (134 + 2) ((((uI m 134 8 ((m.1 134 8) ||| ((1 : Int32) <<< (x1 &&& 31)))).1 134 6) - (1 : Int32)).toNatClampNeg) x1) := w29.t rfl (by show (0 : Int) ≤ (x1).toInt; omega) (by show (x1).toInt ≤ 7; omega)
              have f30 : Fx (RS [7]) m (uI (uI m 134 8 ((m.1 134 8) ||| ((1 : Int32) <<< (x1 &&& 31)))) (134 + 2) ((((uI m 134 8 ((m.1 134 8) ||| ((1 : Int32) <<< (x1 &&& 31)))).1 134 6) - (1 : Int32)).toNatClampNeg) x1) := f29.i rfl
              have w31 : WT (uI (uI (uI m 134 8 ((m.1 134 8) ||| ((1 : Int32) <<< (x1 &&& 31)))) (134 + 2) ((((uI m 134 8 ((m.1 134 8) ||| ((1 : Int32) <<< (x1 &&& 31)))).1 134 6) - (1 : Int32)).toNatClampNeg) x1) 134 7 (4 : Int32)) := w30.n rfl
              have f31 : Fx (RS [7]) m (uI (uI (uI m 134 8 ((m.1 134 8) ||| ((1 : Int32) <<< (x1 &&& 31)))) (134 + 2) ((((uI m 134 8 ((m.1 134 8) ||| ((1 : Int32) <<< (x1 &&& 31)))).1 134 6) - (1 : Int32)).toNatClampNeg) x1) 134 7 (4 : Int32)) := f30.i rfl
              have r32 := w.at (a := 134) (k := 5) rfl
              exact ⟨w31, f31, _, rfl, (by show (0 : Int) ≤ (1 : Int); omega), (by show (1 : Int) ≤ (1 : Int); omega), (by show ((m.1 134 5)).toInt ≤ 12; omega)⟩
        · intro c33
          have c34 : (m.1 134 7) = (0 : Int32) := c33
          have k35 := y_eqr (n := 0) rfl c34
          have w36 : WT (uI m 134 8 ((m.1 134 8) ||| ((1 : Int32) <<< (x1 &&& 31)))) := w.n rfl
          have f36 : Fx (RS [7]) m (uI m 134 8 ((m.1 134 8) ||| ((1 : Int32) <<< (x1 &&& 31)))) := f.i rfl
          refine (s_X3_addGame w36 (Or.inl rfl) (by show (0 : Int) ≤ (x1).toInt; omega) (by show (x1).toInt ≤ (7 : Int); omega) (by show (0 : Int) ≤ (x1).toInt; omega) (by show (x1).toInt ≤ (7 : Int); omega)).to ?_
          rintro _ m1 ⟨w_m1, g37, rfl, p38⟩
          have f_m1 : Fx (RS [7]) m m1 := f36.tr g37 (RS_sub rfl)
          have p39 : (m1.1 134 5).toInt = ((m.1 134 5)).toInt := p38
          clear p38
          refine ⟨rfl, ?_⟩
          have w40 : WT (uI m1 134 7 (1 : Int32)) := w_m1.n rfl
          have f40 : Fx (RS [7]) m (uI m1 134 7 (1 : Int32)) := f_m1.i rfl
          have r41 := w_m1.at (a := 134) (k := 5) rfl
          exact ⟨w40, f40, _, rfl, (by show (0 : Int) ≤ (1 : Int); omega), (by show (1 : Int) ≤ (1 : Int); omega), (by show ((m1.1 134 5)).toInt ≤ 12; omega)⟩
      · intro c42
        have t43 := t_and1 ((m.1 134 8) >>> (x1 &&& 31))
        have k44 := y_ner (n := 0) rfl c42
        have r45 := w.at (a := 134) (k := 5) rfl
        exact ⟨w, f, _, rfl, (by show (0 : Int) ≤ (0 : Int); omega), (by show (0 : Int) ≤ (1 : Int); omega), (by show ((m.1 134 5)).toInt ≤ 12; omega)⟩
set_option maxHeartbeats 4000000 in
theorem s_X3_takeSide_140 {ad : Nat → Nat} {d : Nat} {m : Wm} {x1 x2 : Int32} (w : WT m) (i1 : (0 : Int) ≤ x2.toInt) (i2 : x2.toInt ≤ (8 : Int)) (i3 : (m.1 140 5).toInt ≤ 12) : Ct ad μX3_takeSide (d + 1) [.ref (ad 140), .int x1, .int x2] m (fun r m' => WT m' ∧ Fx (RS [7]) m m' ∧ ∃ v : Int32, r = some (.int v) ∧ (0 : Int) ≤ v.toInt ∧ v.toInt ≤ 1 ∧ ((m'.1 140 5).toInt ≤ 12)) := by
  have f : Fx (RS [7]) m m := Fx.rf
  refine v_X3_takeSide Pl_140 ?_
  refine ⟨?_, ?_⟩
  · intro c1
    have k2 := y_ltr (n := 0) rfl c1
    have r3 := w.at (a := 140) (k := 5) rfl
    exact ⟨w, f, _, rfl, (by show (0 : Int) ≤ (0 : Int); omega), (by show (0 : Int) ≤ (1 : Int); omega), (by show ((m.1 140 5)).toInt ≤ 12; omega)⟩
  · intro c4
    have k5 := y_nltr (n := 0) rfl c4
    refine ⟨?_, ?_⟩
    · intro c6
      have k7 := z_le c6
      have r8 := w.at (a := 140) (k := 5) rfl
      exact ⟨w, f, _, rfl, (by show (0 : Int) ≤ (0 : Int); omega), (by show (0 : Int) ≤ (1 : Int); omega), (by show ((m.1 140 5)).toInt ≤ 12; omega)⟩
    · intro c9
      have k10 := z_nle c9
      refine ⟨?_, ?_⟩
      · intro c11
        have t12 := t_and1 ((m.1 140 8) >>> (x1 &&& 31))
        have k13 := y_eqr (n := 0) rfl c11
        refine ⟨?_, ?_⟩
        · intro c14
          have c15 : ¬ (m.1 140 7) = (0 : Int32) := c14
          have k16 := y_ner (n := 0) rfl c15
          refine ⟨?_, ?_⟩
          · intro c17
            have r18 := w.at (a := 140) (k := 6) rfl
            have c19 : (m.1 140 6) ≤ (0 : Int32) := c17
            have k20 := y_ler (n := 0) rfl c19
            have w21 : WT (uI m 140 8 ((m.1 140 8) ||| ((1 : Int32) <<< (x1 &&& 31)))) := w.n rfl
            have f21 : Fx (RS [7]) m (uI m 140 8 ((m.1 140 8) ||| ((1 : Int32) <<< (x1 &&& 31)))) := f.i rfl
            have w22 : WT (uI (uI m 140 8 ((m.1 140 8) ||| ((1 : Int32) <<< (x1 &&& 31)))) 140 7 (4 : Int32)) := w21.n rfl
            have f22 : Fx (RS [7]) m (uI (uI m 140 8 ((m.1 140 8) ||| ((1 : Int32) <<< (x1 &&& 31)))) 140 7 (4 : Int32)) := f21.i rfl
            have r23 := w.at (a := 140) (k := 5) rfl
            exact ⟨w22, f22, _, rfl, (by show (0 : Int) ≤ (1 : Int); omega), (by show (1 : Int) ≤ (1 : Int); omega), (by show ((m.1 140 5)).toInt ≤ 12; omega)⟩
          · intro c24
            have r25 := w.at (a := 140) (k := 6) rfl
            have c26 : ¬ (m.1 140 6) ≤ (0 : Int32) := c24
            have k27 := y_nler (n := 0) rfl c26
            refine ⟨?_, ?_⟩
            · have t28 := ti_subc (x := (m.1 140 6)) (y := (1 : Int32)) (c := 1) rfl (by omega)
              show vp_in ((m.1 140 6) - (1 : Int32)) 48
              exact vpi (by omega) (by omega)
            · have w29 : WT (uI m 140 8 ((m.1 140 8) ||| ((1 : Int32) <<< (x1 &&& 31)))) := w.n rfl
              have f29 : Fx (RS [7]) m (uI m 140 8 ((m.1 140 8) ||| ((1 : Int32) <<< (x1 &&& 31)))) := f.i rfl
              have w30 : WT (uI (uI m 140 8 ((m.1 140 8) ||| ((1 : Int32) <<< (x1 &&& 31)))) (140 + 2) ((((uI m 140 8 ((m.1 140 8) ||| ((1 : Int32) <<< (x1 &&& 31)))).1 140 6) - (1 : Int32)).toNatClampNeg) x1) := w29.t rfl (by show (0 : Int) ≤ (x1).toInt; omega) (by show (x1).toInt ≤ 7; omega)
              have f30 : Fx (RS [7]) m (uI (uI m 140 8 ((m.1 140 8) ||| ((1 : Int32) <<< (x1 &&& 31)))) (140 + 2) ((((uI m 140 8 ((m.1 140 8) ||| ((1 : Int32) <<< (x1 &&& 31)))).1 140 6) - (1 : Int32)).toNatClampNeg) x1) := f29.i rfl
              have w31 : WT (uI (uI (uI m 140 8 ((m.1 140 8) ||| ((1 : Int32) <<< (x1 &&& 31)))) (140 + 2) ((((uI m 140 8 ((m.1 140 8) ||| ((1 : Int32) <<< (x1 &&& 31)))).1 140 6) - (1 : Int32)).toNatClampNeg) x1) 140 7 (4 : Int32)) := w30.n rfl
              have f31 : Fx (RS [7]) m (uI (uI (uI m 140 8 ((m.1 140 8) ||| ((1 : Int32) <<< (x1 &&& 31)))) (140 + 2) ((((uI m 140 8 ((m.1 140 8) ||| ((1 : Int32) <<< (x1 &&& 31)))).1 140 6) - (1 : Int32)).toNatClampNeg) x1) 140 7 (4 : Int32)) := f30.i rfl
              have r32 := w.at (a := 140) (k := 5) rfl
              exact ⟨w31, f31, _, rfl, (by show (0 : Int) ≤ (1 : Int); omega), (by show (1 : Int) ≤ (1 : Int); omega), (by show ((m.1 140 5)).toInt ≤ 12; omega)⟩
        · intro c33
          have c34 : (m.1 140 7) = (0 : Int32) := c33
          have k35 := y_eqr (n := 0) rfl c34
          have w36 : WT (uI m 140 8 ((m.1 140 8) ||| ((1 : Int32) <<< (x1 &&& 31)))) := w.n rfl
          have f36 : Fx (RS [7]) m (uI m 140 8 ((m.1 140 8) ||| ((1 : Int32) <<< (x1 &&& 31)))) := f.i rfl
          refine (s_X3_addGame w36 (Or.inr rfl) (by show (0 : Int) ≤ (x1).toInt; omega) (by show (x1).toInt ≤ (7 : Int); omega) (by show (0 : Int) ≤ (x1).toInt; omega) (by show (x1).toInt ≤ (7 : Int); omega)).to ?_
          rintro _ m1 ⟨w_m1, g37, rfl, p38⟩
          have f_m1 : Fx (RS [7]) m m1 := f36.tr g37 (RS_sub rfl)
          have p39 : (m1.1 140 5).toInt = ((m.1 140 5)).toInt := p38
          clear p38
          refine ⟨rfl, ?_⟩
          have w40 : WT (uI m1 140 7 (1 : Int32)) := w_m1.n rfl
          have f40 : Fx (RS [7]) m (uI m1 140 7 (1 : Int32)) := f_m1.i rfl
          have r41 := w_m1.at (a := 140) (k := 5) rfl
          exact ⟨w40, f40, _, rfl, (by show (0 : Int) ≤ (1 : Int); omega), (by show (1 : Int) ≤ (1 : Int); omega), (by show ((m1.1 140 5)).toInt ≤ 12; omega)⟩
      · intro c42
        have t43 := t_and1 ((m.1 140 8) >>> (x1 &&& 31))
        have k44 := y_ner (n := 0) rfl c42
        have r45 := w.at (a := 140) (k := 5) rfl
        exact ⟨w, f, _, rfl, (by show (0 : Int) ≤ (0 : Int); omega), (by show (0 : Int) ≤ (1 : Int); omega), (by show ((m.1 140 5)).toInt ≤ 12; omega)⟩
theorem s_X3_takeSide {ad : Nat → Nat} {d : Nat} {m : Wm} {b0 : Nat} {x1 x2 : Int32} (w : WT m) (hb0 : b0 = 134 ∨ b0 = 140) (i1 : (0 : Int) ≤ x2.toInt) (i2 : x2.toInt ≤ (8 : Int)) (i3 : (m.1 b0 5).toInt ≤ 12) : Ct ad μX3_takeSide (d + 1) [.ref (ad b0), .int x1, .int x2] m (fun r m' => WT m' ∧ Fx (RS [7]) m m' ∧ ∃ v : Int32, r = some (.int v) ∧ (0 : Int) ≤ v.toInt ∧ v.toInt ≤ 1 ∧ ((m'.1 b0 5).toInt ≤ 12)) := by
  rcases hb0 with rfl | rfl
  · exact s_X3_takeSide_134 w i1 i2 i3
  · exact s_X3_takeSide_140 w i1 i2 i3
set_option maxHeartbeats 4000000 in
theorem s_X3_take_134 {ad : Nat → Nat} {d : Nat} {m : Wm} {x1 x2 : Int32} (w : WT m) (i1 : (0 : Int) ≤ x2.toInt) (i2 : x2.toInt ≤ (8 : Int)) (i3 : (m.1 134 5).toInt ≤ 12 ∨ (m.1 134 7).toInt = 0) : Ct ad μX3_take (d + 2) [.ref (ad 134), .int x1, .int x2] m (fun r m' => WT m' ∧ Fx (RS [7]) m m' ∧ ∃ v : Int32, r = some (.int v) ∧ (0 : Int) ≤ v.toInt ∧ v.toInt ≤ 1 ∧ ((m'.1 134 5).toInt ≤ 12 ∨ (m'.1 134 7).toInt = 0)) := by
  have f : Fx (RS [7]) m m := Fx.rf
  refine v_X3_take Pl_134 ?_
  refine ⟨?_, ?_, ?_, ?_, ?_, ?_⟩
  · intro c1
    have k2 := y_eqr (n := 0) rfl c1
    refine ⟨?_, ?_⟩
    · intro c3
      have r4 := w.at (a := 134) (k := 5) rfl
      have k5 := y_ltl (n := 12) rfl c3
      exact ⟨w, f, _, rfl, (by show (0 : Int) ≤ (0 : Int); omega), (by show (0 : Int) ≤ (1 : Int); omega), (by show ((m.1 134 5)).toInt ≤ 12 ∨ ((m.1 134 7)).toInt = 0; omega)⟩
    · intro c6
      have r7 := w.at (a := 134) (k := 5) rfl
      have k8 := y_nltl (n := 12) rfl c6
      refine (s_X3_takeSide w (Or.inl rfl) (by show (0 : Int) ≤ (x2).toInt; omega) (by show (x2).toInt ≤ (8 : Int); omega) (by show ((m.1 134 5)).toInt ≤ 12; omega)).to ?_
      rintro _ m3 ⟨w_m3, g9, v4, rfl, p11, p12, p10⟩
      have f_m3 : Fx (RS [7]) m m3 := f.tr g9 (RS_sub rfl)
      have p13 : (m3.1 134 5).toInt ≤ 12 := p10
      clear p10
      refine ⟨v4, rfl, ?_⟩
      refine ⟨?_, ?_⟩
      · intro c14
        have k15 := y_eqr (n := 0) rfl c14
        have r16 := w_m3.at (a := 134) (k := 5) rfl
        exact ⟨w_m3, f_m3, _, rfl, (by show (0 : Int) ≤ (0 : Int); omega), (by show (0 : Int) ≤ (1 : Int); omega), (by show ((m3.1 134 5)).toInt ≤ 12 ∨ ((m3.1 134 7)).toInt = 0; omega)⟩
      · intro c17
        have k18 := y_ner (n := 0) rfl c17
        have r19 := w_m3.at (a := 134) (k := 5) rfl
        exact ⟨w_m3, f_m3, _, rfl, (by show (0 : Int) ≤ (1 : Int); omega), (by show (1 : Int) ≤ (1 : Int); omega), (by show ((m3.1 134 5)).toInt ≤ 12 ∨ ((m3.1 134 7)).toInt = 0; omega)⟩
  · intro c20
    have k21 := y_eqr (n := 1) rfl c20
    have r22 := w.at (a := 134) (k := 5) rfl
    refine (s_X3_takeThrow w (Or.inl rfl) (by show ((m.1 134 5)).toInt ≤ 12; omega)).to ?_
    rintro _ m5 ⟨w_m5, g23, v6, rfl, p25, p26, p24⟩
    have f_m5 : Fx (RS [7]) m m5 := f.tr g23 (RS_sub rfl)
    have p27 : (m5.1 134 5).toInt ≤ 12 := p24
    clear p24
    refine ⟨v6, rfl, ?_⟩
    refine ⟨?_, ?_⟩
    · intro c28
      have k29 := y_ner (n := 0) rfl c28
      have r30 := w_m5.at (a := 134) (k := 5) rfl
      exact ⟨w_m5, f_m5, _, rfl, (by show (0 : Int) ≤ (1 : Int); omega), (by show (1 : Int) ≤ (1 : Int); omega), (by show ((m5.1 134 5)).toInt ≤ 12 ∨ ((m5.1 134 7)).toInt = 0; omega)⟩
    · intro c31
      have k32 := y_eqr (n := 0) rfl c31
      have r33 := w_m5.at (a := 134) (k := 5) rfl
      refine (s_X3_takeDash w_m5 (Or.inl rfl) (by show ((m5.1 134 5)).toInt ≤ 12; omega)).to ?_
      rintro _ m7 ⟨w_m7, g34, v8, rfl, p36, p37, p35⟩
      have f_m7 : Fx (RS [7]) m m7 := f_m5.tr g34 (RS_sub rfl)
      have p38 : (m7.1 134 5).toInt ≤ 12 := p35
      clear p35
      refine ⟨v8, rfl, ?_⟩
      refine ⟨?_, ?_⟩
      · intro c39
        have k40 := y_eqr (n := 0) rfl c39
        have r41 := w_m7.at (a := 134) (k := 5) rfl
        exact ⟨w_m7, f_m7, _, rfl, (by show (0 : Int) ≤ (0 : Int); omega), (by show (0 : Int) ≤ (1 : Int); omega), (by show ((m7.1 134 5)).toInt ≤ 12 ∨ ((m7.1 134 7)).toInt = 0; omega)⟩
      · intro c42
        have k43 := y_ner (n := 0) rfl c42
        have r44 := w_m7.at (a := 134) (k := 5) rfl
        exact ⟨w_m7, f_m7, _, rfl, (by show (0 : Int) ≤ (1 : Int); omega), (by show (1 : Int) ≤ (1 : Int); omega), (by show ((m7.1 134 5)).toInt ≤ 12 ∨ ((m7.1 134 7)).toInt = 0; omega)⟩
  · intro c45
    have k46 := y_eqr (n := 2) rfl c45
    have r47 := w.at (a := 134) (k := 5) rfl
    refine (s_X3_takeDash w (Or.inl rfl) (by show ((m.1 134 5)).toInt ≤ 12; omega)).to ?_
    rintro _ m9 ⟨w_m9, g48, v10, rfl, p50, p51, p49⟩
    have f_m9 : Fx (RS [7]) m m9 := f.tr g48 (RS_sub rfl)
    have p52 : (m9.1 134 5).toInt ≤ 12 := p49
    clear p49
    refine ⟨v10, rfl, ?_⟩
    refine ⟨?_, ?_⟩
    · exact bz_of (by omega) (by omega)
    · have r53 := w_m9.at (a := 134) (k := 5) rfl
      exact ⟨w_m9, f_m9, _, rfl, (by show (0 : Int) ≤ (v10).toInt; omega), (by show (v10).toInt ≤ (1 : Int); omega), (by show ((m9.1 134 5)).toInt ≤ 12 ∨ ((m9.1 134 7)).toInt = 0; omega)⟩
  · intro c54
    have k55 := y_eqr (n := 3) rfl c54
    refine ⟨?_, ?_⟩
    · intro c56
      have r57 := w.at (a := 134) (k := 5) rfl
      have k58 := y_ltl (n := 12) rfl c56
      exact ⟨w, f, _, rfl, (by show (0 : Int) ≤ (0 : Int); omega), (by show (0 : Int) ≤ (1 : Int); omega), (by show ((m.1 134 5)).toInt ≤ 12 ∨ ((m.1 134 7)).toInt = 0; omega)⟩
    · intro c59
      have r60 := w.at (a := 134) (k := 5) rfl
      have k61 := y_nltl (n := 12) rfl c59
      refine (s_X3_takeSide w (Or.inl rfl) (by show (0 : Int) ≤ (x2).toInt; omega) (by show (x2).toInt ≤ (8 : Int); omega) (by show ((m.1 134 5)).toInt ≤ 12; omega)).to ?_
      rintro _ m11 ⟨w_m11, g62, v12, rfl, p64, p65, p63⟩
      have f_m11 : Fx (RS [7]) m m11 := f.tr g62 (RS_sub rfl)
      have p66 : (m11.1 134 5).toInt ≤ 12 := p63
      clear p63
      refine ⟨v12, rfl, ?_⟩
      refine ⟨?_, ?_⟩
      · intro c67
        have k68 := y_eqr (n := 0) rfl c67
        have r69 := w_m11.at (a := 134) (k := 5) rfl
        exact ⟨w_m11, f_m11, _, rfl, (by show (0 : Int) ≤ (0 : Int); omega), (by show (0 : Int) ≤ (1 : Int); omega), (by show ((m11.1 134 5)).toInt ≤ 12 ∨ ((m11.1 134 7)).toInt = 0; omega)⟩
      · intro c70
        have k71 := y_ner (n := 0) rfl c70
        have r72 := w_m11.at (a := 134) (k := 5) rfl
        exact ⟨w_m11, f_m11, _, rfl, (by show (0 : Int) ≤ (1 : Int); omega), (by show (1 : Int) ≤ (1 : Int); omega), (by show ((m11.1 134 5)).toInt ≤ 12 ∨ ((m11.1 134 7)).toInt = 0; omega)⟩
  · intro c73
    have k74 := y_eqr (n := 4) rfl c73
    have r75 := w.at (a := 134) (k := 5) rfl
    refine (s_X3_takeThrow w (Or.inl rfl) (by show ((m.1 134 5)).toInt ≤ 12; omega)).to ?_
    rintro _ m13 ⟨w_m13, g76, v14, rfl, p78, p79, p77⟩
    have f_m13 : Fx (RS [7]) m m13 := f.tr g76 (RS_sub rfl)
    have p80 : (m13.1 134 5).toInt ≤ 12 := p77
    clear p77
    refine ⟨v14, rfl, ?_⟩
    refine ⟨?_, ?_⟩
    · intro c81
      have k82 := y_ner (n := 0) rfl c81
      have r83 := w_m13.at (a := 134) (k := 5) rfl
      exact ⟨w_m13, f_m13, _, rfl, (by show (0 : Int) ≤ (1 : Int); omega), (by show (1 : Int) ≤ (1 : Int); omega), (by show ((m13.1 134 5)).toInt ≤ 12 ∨ ((m13.1 134 7)).toInt = 0; omega)⟩
    · intro c84
      have k85 := y_eqr (n := 0) rfl c84
      have r86 := w_m13.at (a := 134) (k := 5) rfl
      refine (s_X3_takeBreak w_m13 (Or.inl rfl) (by show ((m13.1 134 5)).toInt ≤ 12; omega)).to ?_
      rintro _ m15 ⟨w_m15, g87, v16, rfl, p89, p90, p88⟩
      have f_m15 : Fx (RS [7]) m m15 := f_m13.tr g87 (RS_sub rfl)
      have p91 : (m15.1 134 5).toInt ≤ 12 ∨ (m15.1 134 7).toInt = 0 := p88
      clear p88
      refine ⟨v16, rfl, ?_⟩
      refine ⟨?_, ?_⟩
      · intro c92
        have k93 := y_eqr (n := 0) rfl c92
        have r94 := w_m15.at (a := 134) (k := 5) rfl
        exact ⟨w_m15, f_m15, _, rfl, (by show (0 : Int) ≤ (0 : Int); omega), (by show (0 : Int) ≤ (1 : Int); omega), (by show ((m15.1 134 5)).toInt ≤ 12 ∨ ((m15.1 134 7)).toInt = 0; omega)⟩
      · intro c95
        have k96 := y_ner (n := 0) rfl c95
        have r97 := w_m15.at (a := 134) (k := 5) rfl
        exact ⟨w_m15, f_m15, _, rfl, (by show (0 : Int) ≤ (1 : Int); omega), (by show (1 : Int) ≤ (1 : Int); omega), (by show ((m15.1 134 5)).toInt ≤ 12 ∨ ((m15.1 134 7)).toInt = 0; omega)⟩
  · intro c98
    have k99 := y_ner (n := 0) rfl c98
    intro c100
    have k101 := y_ner (n := 1) rfl c100
    intro c102
    have k103 := y_ner (n := 2) rfl c102
    intro c104
    have k105 := y_ner (n := 3) rfl c104
    intro c106
    have k107 := y_ner (n := 4) rfl c106
    have r108 := w.at (a := 134) (k := 5) rfl
    refine (s_X3_takeBreak w (Or.inl rfl) (by show ((m.1 134 5)).toInt ≤ 12; omega)).to ?_
    rintro _ m1 ⟨w_m1, g109, v2, rfl, p111, p112, p110⟩
    have f_m1 : Fx (RS [7]) m m1 := f.tr g109 (RS_sub rfl)
    have p113 : (m1.1 134 5).toInt ≤ 12 ∨ (m1.1 134 7).toInt = 0 := p110
    clear p110
    refine ⟨v2, rfl, ?_⟩
    refine ⟨?_, ?_⟩
    · exact bz_of (by omega) (by omega)
    · have r114 := w_m1.at (a := 134) (k := 5) rfl
      exact ⟨w_m1, f_m1, _, rfl, (by show (0 : Int) ≤ (v2).toInt; omega), (by show (v2).toInt ≤ (1 : Int); omega), (by show ((m1.1 134 5)).toInt ≤ 12 ∨ ((m1.1 134 7)).toInt = 0; omega)⟩
set_option maxHeartbeats 4000000 in
theorem s_X3_take_140 {ad : Nat → Nat} {d : Nat} {m : Wm} {x1 x2 : Int32} (w : WT m) (i1 : (0 : Int) ≤ x2.toInt) (i2 : x2.toInt ≤ (8 : Int)) (i3 : (m.1 140 5).toInt ≤ 12 ∨ (m.1 140 7).toInt = 0) : Ct ad μX3_take (d + 2) [.ref (ad 140), .int x1, .int x2] m (fun r m' => WT m' ∧ Fx (RS [7]) m m' ∧ ∃ v : Int32, r = some (.int v) ∧ (0 : Int) ≤ v.toInt ∧ v.toInt ≤ 1 ∧ ((m'.1 140 5).toInt ≤ 12 ∨ (m'.1 140 7).toInt = 0)) := by
  have f : Fx (RS [7]) m m := Fx.rf
  refine v_X3_take Pl_140 ?_
  refine ⟨?_, ?_, ?_, ?_, ?_, ?_⟩
  · intro c1
    have k2 := y_eqr (n := 0) rfl c1
    refine ⟨?_, ?_⟩
    · intro c3
      have r4 := w.at (a := 140) (k := 5) rfl
      have k5 := y_ltl (n := 12) rfl c3
      exact ⟨w, f, _, rfl, (by show (0 : Int) ≤ (0 : Int); omega), (by show (0 : Int) ≤ (1 : Int); omega), (by show ((m.1 140 5)).toInt ≤ 12 ∨ ((m.1 140 7)).toInt = 0; omega)⟩
    · intro c6
      have r7 := w.at (a := 140) (k := 5) rfl
      have k8 := y_nltl (n := 12) rfl c6
      refine (s_X3_takeSide w (Or.inr rfl) (by show (0 : Int) ≤ (x2).toInt; omega) (by show (x2).toInt ≤ (8 : Int); omega) (by show ((m.1 140 5)).toInt ≤ 12; omega)).to ?_
      rintro _ m3 ⟨w_m3, g9, v4, rfl, p11, p12, p10⟩
      have f_m3 : Fx (RS [7]) m m3 := f.tr g9 (RS_sub rfl)
      have p13 : (m3.1 140 5).toInt ≤ 12 := p10
      clear p10
      refine ⟨v4, rfl, ?_⟩
      refine ⟨?_, ?_⟩
      · intro c14
        have k15 := y_eqr (n := 0) rfl c14
        have r16 := w_m3.at (a := 140) (k := 5) rfl
        exact ⟨w_m3, f_m3, _, rfl, (by show (0 : Int) ≤ (0 : Int); omega), (by show (0 : Int) ≤ (1 : Int); omega), (by show ((m3.1 140 5)).toInt ≤ 12 ∨ ((m3.1 140 7)).toInt = 0; omega)⟩
      · intro c17
        have k18 := y_ner (n := 0) rfl c17
        have r19 := w_m3.at (a := 140) (k := 5) rfl
        exact ⟨w_m3, f_m3, _, rfl, (by show (0 : Int) ≤ (1 : Int); omega), (by show (1 : Int) ≤ (1 : Int); omega), (by show ((m3.1 140 5)).toInt ≤ 12 ∨ ((m3.1 140 7)).toInt = 0; omega)⟩
  · intro c20
    have k21 := y_eqr (n := 1) rfl c20
    have r22 := w.at (a := 140) (k := 5) rfl
    refine (s_X3_takeThrow w (Or.inr rfl) (by show ((m.1 140 5)).toInt ≤ 12; omega)).to ?_
    rintro _ m5 ⟨w_m5, g23, v6, rfl, p25, p26, p24⟩
    have f_m5 : Fx (RS [7]) m m5 := f.tr g23 (RS_sub rfl)
    have p27 : (m5.1 140 5).toInt ≤ 12 := p24
    clear p24
    refine ⟨v6, rfl, ?_⟩
    refine ⟨?_, ?_⟩
    · intro c28
      have k29 := y_ner (n := 0) rfl c28
      have r30 := w_m5.at (a := 140) (k := 5) rfl
      exact ⟨w_m5, f_m5, _, rfl, (by show (0 : Int) ≤ (1 : Int); omega), (by show (1 : Int) ≤ (1 : Int); omega), (by show ((m5.1 140 5)).toInt ≤ 12 ∨ ((m5.1 140 7)).toInt = 0; omega)⟩
    · intro c31
      have k32 := y_eqr (n := 0) rfl c31
      have r33 := w_m5.at (a := 140) (k := 5) rfl
      refine (s_X3_takeDash w_m5 (Or.inr rfl) (by show ((m5.1 140 5)).toInt ≤ 12; omega)).to ?_
      rintro _ m7 ⟨w_m7, g34, v8, rfl, p36, p37, p35⟩
      have f_m7 : Fx (RS [7]) m m7 := f_m5.tr g34 (RS_sub rfl)
      have p38 : (m7.1 140 5).toInt ≤ 12 := p35
      clear p35
      refine ⟨v8, rfl, ?_⟩
      refine ⟨?_, ?_⟩
      · intro c39
        have k40 := y_eqr (n := 0) rfl c39
        have r41 := w_m7.at (a := 140) (k := 5) rfl
        exact ⟨w_m7, f_m7, _, rfl, (by show (0 : Int) ≤ (0 : Int); omega), (by show (0 : Int) ≤ (1 : Int); omega), (by show ((m7.1 140 5)).toInt ≤ 12 ∨ ((m7.1 140 7)).toInt = 0; omega)⟩
      · intro c42
        have k43 := y_ner (n := 0) rfl c42
        have r44 := w_m7.at (a := 140) (k := 5) rfl
        exact ⟨w_m7, f_m7, _, rfl, (by show (0 : Int) ≤ (1 : Int); omega), (by show (1 : Int) ≤ (1 : Int); omega), (by show ((m7.1 140 5)).toInt ≤ 12 ∨ ((m7.1 140 7)).toInt = 0; omega)⟩
  · intro c45
    have k46 := y_eqr (n := 2) rfl c45
    have r47 := w.at (a := 140) (k := 5) rfl
    refine (s_X3_takeDash w (Or.inr rfl) (by show ((m.1 140 5)).toInt ≤ 12; omega)).to ?_
    rintro _ m9 ⟨w_m9, g48, v10, rfl, p50, p51, p49⟩
    have f_m9 : Fx (RS [7]) m m9 := f.tr g48 (RS_sub rfl)
    have p52 : (m9.1 140 5).toInt ≤ 12 := p49
    clear p49
    refine ⟨v10, rfl, ?_⟩
    refine ⟨?_, ?_⟩
    · exact bz_of (by omega) (by omega)
    · have r53 := w_m9.at (a := 140) (k := 5) rfl
      exact ⟨w_m9, f_m9, _, rfl, (by show (0 : Int) ≤ (v10).toInt; omega), (by show (v10).toInt ≤ (1 : Int); omega), (by show ((m9.1 140 5)).toInt ≤ 12 ∨ ((m9.1 140 7)).toInt = 0; omega)⟩
  · intro c54
    have k55 := y_eqr (n := 3) rfl c54
    refine ⟨?_, ?_⟩
    · intro c56
      have r57 := w.at (a := 140) (k := 5) rfl
      have k58 := y_ltl (n := 12) rfl c56
      exact ⟨w, f, _, rfl, (by show (0 : Int) ≤ (0 : Int); omega), (by show (0 : Int) ≤ (1 : Int); omega), (by show ((m.1 140 5)).toInt ≤ 12 ∨ ((m.1 140 7)).toInt = 0; omega)⟩
    · intro c59
      have r60 := w.at (a := 140) (k := 5) rfl
      have k61 := y_nltl (n := 12) rfl c59
      refine (s_X3_takeSide w (Or.inr rfl) (by show (0 : Int) ≤ (x2).toInt; omega) (by show (x2).toInt ≤ (8 : Int); omega) (by show ((m.1 140 5)).toInt ≤ 12; omega)).to ?_
      rintro _ m11 ⟨w_m11, g62, v12, rfl, p64, p65, p63⟩
      have f_m11 : Fx (RS [7]) m m11 := f.tr g62 (RS_sub rfl)
      have p66 : (m11.1 140 5).toInt ≤ 12 := p63
      clear p63
      refine ⟨v12, rfl, ?_⟩
      refine ⟨?_, ?_⟩
      · intro c67
        have k68 := y_eqr (n := 0) rfl c67
        have r69 := w_m11.at (a := 140) (k := 5) rfl
        exact ⟨w_m11, f_m11, _, rfl, (by show (0 : Int) ≤ (0 : Int); omega), (by show (0 : Int) ≤ (1 : Int); omega), (by show ((m11.1 140 5)).toInt ≤ 12 ∨ ((m11.1 140 7)).toInt = 0; omega)⟩
      · intro c70
        have k71 := y_ner (n := 0) rfl c70
        have r72 := w_m11.at (a := 140) (k := 5) rfl
        exact ⟨w_m11, f_m11, _, rfl, (by show (0 : Int) ≤ (1 : Int); omega), (by show (1 : Int) ≤ (1 : Int); omega), (by show ((m11.1 140 5)).toInt ≤ 12 ∨ ((m11.1 140 7)).toInt = 0; omega)⟩
  · intro c73
    have k74 := y_eqr (n := 4) rfl c73
    have r75 := w.at (a := 140) (k := 5) rfl
    refine (s_X3_takeThrow w (Or.inr rfl) (by show ((m.1 140 5)).toInt ≤ 12; omega)).to ?_
    rintro _ m13 ⟨w_m13, g76, v14, rfl, p78, p79, p77⟩
    have f_m13 : Fx (RS [7]) m m13 := f.tr g76 (RS_sub rfl)
    have p80 : (m13.1 140 5).toInt ≤ 12 := p77
    clear p77
    refine ⟨v14, rfl, ?_⟩
    refine ⟨?_, ?_⟩
    · intro c81
      have k82 := y_ner (n := 0) rfl c81
      have r83 := w_m13.at (a := 140) (k := 5) rfl
      exact ⟨w_m13, f_m13, _, rfl, (by show (0 : Int) ≤ (1 : Int); omega), (by show (1 : Int) ≤ (1 : Int); omega), (by show ((m13.1 140 5)).toInt ≤ 12 ∨ ((m13.1 140 7)).toInt = 0; omega)⟩
    · intro c84
      have k85 := y_eqr (n := 0) rfl c84
      have r86 := w_m13.at (a := 140) (k := 5) rfl
      refine (s_X3_takeBreak w_m13 (Or.inr rfl) (by show ((m13.1 140 5)).toInt ≤ 12; omega)).to ?_
      rintro _ m15 ⟨w_m15, g87, v16, rfl, p89, p90, p88⟩
      have f_m15 : Fx (RS [7]) m m15 := f_m13.tr g87 (RS_sub rfl)
      have p91 : (m15.1 140 5).toInt ≤ 12 ∨ (m15.1 140 7).toInt = 0 := p88
      clear p88
      refine ⟨v16, rfl, ?_⟩
      refine ⟨?_, ?_⟩
      · intro c92
        have k93 := y_eqr (n := 0) rfl c92
        have r94 := w_m15.at (a := 140) (k := 5) rfl
        exact ⟨w_m15, f_m15, _, rfl, (by show (0 : Int) ≤ (0 : Int); omega), (by show (0 : Int) ≤ (1 : Int); omega), (by show ((m15.1 140 5)).toInt ≤ 12 ∨ ((m15.1 140 7)).toInt = 0; omega)⟩
      · intro c95
        have k96 := y_ner (n := 0) rfl c95
        have r97 := w_m15.at (a := 140) (k := 5) rfl
        exact ⟨w_m15, f_m15, _, rfl, (by show (0 : Int) ≤ (1 : Int); omega), (by show (1 : Int) ≤ (1 : Int); omega), (by show ((m15.1 140 5)).toInt ≤ 12 ∨ ((m15.1 140 7)).toInt = 0; omega)⟩
  · intro c98
    have k99 := y_ner (n := 0) rfl c98
    intro c100
    have k101 := y_ner (n := 1) rfl c100
    intro c102
    have k103 := y_ner (n := 2) rfl c102
    intro c104
    have k105 := y_ner (n := 3) rfl c104
    intro c106
    have k107 := y_ner (n := 4) rfl c106
    have r108 := w.at (a := 140) (k := 5) rfl
    refine (s_X3_takeBreak w (Or.inr rfl) (by show ((m.1 140 5)).toInt ≤ 12; omega)).to ?_
    rintro _ m1 ⟨w_m1, g109, v2, rfl, p111, p112, p110⟩
    have f_m1 : Fx (RS [7]) m m1 := f.tr g109 (RS_sub rfl)
    have p113 : (m1.1 140 5).toInt ≤ 12 ∨ (m1.1 140 7).toInt = 0 := p110
    clear p110
    refine ⟨v2, rfl, ?_⟩
    refine ⟨?_, ?_⟩
    · exact bz_of (by omega) (by omega)
    · have r114 := w_m1.at (a := 140) (k := 5) rfl
      exact ⟨w_m1, f_m1, _, rfl, (by show (0 : Int) ≤ (v2).toInt; omega), (by show (v2).toInt ≤ (1 : Int); omega), (by show ((m1.1 140 5)).toInt ≤ 12 ∨ ((m1.1 140 7)).toInt = 0; omega)⟩
theorem s_X3_take {ad : Nat → Nat} {d : Nat} {m : Wm} {b0 : Nat} {x1 x2 : Int32} (w : WT m) (hb0 : b0 = 134 ∨ b0 = 140) (i1 : (0 : Int) ≤ x2.toInt) (i2 : x2.toInt ≤ (8 : Int)) (i3 : (m.1 b0 5).toInt ≤ 12 ∨ (m.1 b0 7).toInt = 0) : Ct ad μX3_take (d + 2) [.ref (ad b0), .int x1, .int x2] m (fun r m' => WT m' ∧ Fx (RS [7]) m m' ∧ ∃ v : Int32, r = some (.int v) ∧ (0 : Int) ≤ v.toInt ∧ v.toInt ≤ 1 ∧ ((m'.1 b0 5).toInt ≤ 12 ∨ (m'.1 b0 7).toInt = 0)) := by
  rcases hb0 with rfl | rfl
  · exact s_X3_take_134 w i1 i2 i3
  · exact s_X3_take_140 w i1 i2 i3
set_option maxHeartbeats 4000000 in
theorem l_X3_compile_134 {ad : Nat → Nat} {d : Nat} {m0 : Wm}  : ∀ n : Nat, (∀ (m : Wm) (x2 x3 x4 : Int32), WT m → Fx (RS [7]) m0 m → (0 : Int) ≤ x2.toInt → x2.toInt ≤ (8 : Int) → (0 : Int) ≤ x3.toInt → x3.toInt ≤ (76 : Int) → (0 : Int) ≤ x4.toInt → x4.toInt ≤ (80 : Int) → ((m.1 134 5).toInt ≤ 12 ∨ (m.1 134 7).toInt = 0) → 80 - x4.toInt < (n : Int) → AW ad E0 μX3_compile (d + 3) (fun r m' => WT m' ∧ Fx (RS [7]) m0 m' ∧ ∃ v : Int32, r = some (.int v)) 30 [(0, .ref (ad 134)), (1, .ref (ad 1)), (2, .int x2), (3, .int x3), (4, .int x4)] [] m) := by
  intro n
  induction n with
  | zero =>
    intros
    exfalso
    omega
  | succ n ih =>
    intro m x2 x3 x4 w f j1 j2 j3 j4 j5 j6 j7 hn
    refine g_X3_compile_30 Pl_134 ?_
    refine ⟨?_, ?_⟩
    · intro c1
      have k2 := z_le c1
      refine ⟨?_, ?_⟩
      · intro c3
        have r4 := w.at (a := 1) (k := 1) rfl
        have k5 := y_ltl (n := 76) rfl c3
        exact ⟨w, f, _, rfl⟩
      · intro c6
        have r7 := w.at (a := 1) (k := 1) rfl
        have k8 := y_nltl (n := 76) rfl c6
        refine ⟨?_, ?_⟩
        · intro c9
          have k10 := y_eqr (n := 4) rfl c9
          exact ⟨w, f, _, rfl⟩
        · intro c11
          have k12 := y_ner (n := 4) rfl c11
          refine ⟨?_, ?_⟩
          · intro c13
            have k14 := y_eqr (n := 5) rfl c13
            exact ⟨w, f, _, rfl⟩
          · intro c15
            have k16 := y_ner (n := 5) rfl c15
            exact ⟨w, f, _, rfl⟩
    · intro c17
      have k18 := z_nle c17
      refine ⟨?_, ?_⟩
      · exact vpi (by omega) (by omega)
      · have r19 := w.at (a := 134) (k := 5) rfl
        refine (s_X3_take w (Or.inl rfl) (by show (0 : Int) ≤ (x2).toInt; omega) (by show (x2).toInt ≤ (8 : Int); omega) (by show ((m.1 134 5)).toInt ≤ 12 ∨ ((m.1 134 7)).toInt = 0; omega)).to ?_
        rintro _ m1 ⟨w_m1, g20, v2, rfl, p22, p23, p21⟩
        have f_m1 : Fx (RS [7]) m0 m1 := f.tr g20 (RS_sub rfl)
        have p24 : (m1.1 134 5).toInt ≤ 12 ∨ (m1.1 134 7).toInt = 0 := p21
        clear p21
        refine ⟨v2, rfl, ?_⟩
        refine ⟨?_, ?_⟩
        · intro c25
          have k26 := y_ner (n := 0) rfl c25
          have t27 := ti_addc (x := x4) (y := (1 : Int32)) (c := 1) rfl (by omega)
          have r28 := w_m1.at (a := 134) (k := 5) rfl
          exact ih _ _ _ _ w_m1 f_m1 (by show (0 : Int) ≤ (x2).toInt; omega) (by show (x2).toInt ≤ (8 : Int); omega) (by show (0 : Int) ≤ (x3).toInt; omega) (by show (x3).toInt ≤ (76 : Int); omega) (by show (0 : Int) ≤ ((x4 + (1 : Int32))).toInt; omega) (by show ((x4 + (1 : Int32))).toInt ≤ (80 : Int); omega) (by show ((m1.1 134 5)).toInt ≤ 12 ∨ ((m1.1 134 7)).toInt = 0; omega) (by show 80 - ((x4 + (1 : Int32))).toInt < _; omega)
        · intro c29
          have k30 := y_eqr (n := 0) rfl c29
          exact ⟨w_m1, f_m1, _, rfl⟩
set_option maxHeartbeats 4000000 in
theorem s_X3_compile_134 {ad : Nat → Nat} {d : Nat} {m : Wm} {x2 : Int32} (w : WT m) (i1 : (0 : Int) ≤ x2.toInt) (i2 : x2.toInt ≤ (8 : Int)) : Ct ad μX3_compile (d + 3) [.ref (ad 134), .ref (ad 1), .int x2] m (fun r m' => WT m' ∧ Fx (RS [7]) m m' ∧ ∃ v : Int32, r = some (.int v)) := by
  have f : Fx (RS [7]) m m := Fx.rf
  refine v_X3_compile Pl_134 ?_
  refine (s_X3_clear w (Or.inl rfl)).to ?_
  rintro _ m1 ⟨w_m1, g1, rfl, p2⟩
  have f_m1 : Fx (RS [7]) m m1 := f.tr g1 (RS_sub rfl)
  have p3 : (m1.1 134 5).toInt = 0 := p2
  clear p2
  refine ⟨rfl, ?_⟩
  refine ⟨?_, ?_⟩
  · intro c4
    have r5 := w_m1.at (a := 1) (k := 1) rfl
    have k6 := y_ner (n := 0) rfl c4
    have r7 := w_m1.at (a := 134) (k := 5) rfl
    refine (s_X3_openRound w_m1 (Or.inl rfl) (by show ((m1.1 134 5)).toInt ≤ 12; omega)).to ?_
    rintro _ m2 ⟨w_m2, g8, rfl, p9, p10⟩
    have f_m2 : Fx (RS [7]) m m2 := f_m1.tr g8 (RS_sub rfl)
    have p11 : (m2.1 134 5).toInt = ((m1.1 134 5)).toInt + 1 := p9
    clear p9
    have p12 : (m2.1 134 7).toInt = 0 := p10
    clear p10
    refine ⟨rfl, ?_⟩
    have r13 := w_m2.at (a := 1) (k := 1) rfl
    have t14 := ti_ltv (a := (76 : Int32)) (b := (m2.1 1 1)) (c := (76 : Int32)) (d := (m2.1 1 1)) (A := (76)) (B := (m2.1 1 1).toInt) (C := (76)) (D := (m2.1 1 1).toInt) rfl rfl rfl rfl
    have r15 := w_m2.at (a := 134) (k := 5) rfl
    exact (l_X3_compile_134 (m0 := m) 1000000) _ _ _ _ w_m2 f_m2 (by show (0 : Int) ≤ (x2).toInt; omega) (by show (x2).toInt ≤ (8 : Int); omega) (by show (0 : Int) ≤ ((if (76 : Int32) < (m2.1 1 1) then (76 : Int32) else (m2.1 1 1))).toInt; omega) (by show ((if (76 : Int32) < (m2.1 1 1) then (76 : Int32) else (m2.1 1 1))).toInt ≤ (76 : Int); omega) (by show (0 : Int) ≤ (0 : Int); omega) (by show (0 : Int) ≤ (80 : Int); omega) (by show ((m2.1 134 5)).toInt ≤ 12 ∨ ((m2.1 134 7)).toInt = 0; omega) (by show 80 - (0 : Int) < _; omega)
  · intro c16
    have r17 := w_m1.at (a := 1) (k := 1) rfl
    have k18 := y_eqr (n := 0) rfl c16
    exact ⟨w_m1, f_m1, _, rfl⟩
set_option maxHeartbeats 4000000 in
theorem l_X3_compile_140 {ad : Nat → Nat} {d : Nat} {m0 : Wm}  : ∀ n : Nat, (∀ (m : Wm) (x2 x3 x4 : Int32), WT m → Fx (RS [7]) m0 m → (0 : Int) ≤ x2.toInt → x2.toInt ≤ (8 : Int) → (0 : Int) ≤ x3.toInt → x3.toInt ≤ (76 : Int) → (0 : Int) ≤ x4.toInt → x4.toInt ≤ (80 : Int) → ((m.1 140 5).toInt ≤ 12 ∨ (m.1 140 7).toInt = 0) → 80 - x4.toInt < (n : Int) → AW ad E0 μX3_compile (d + 3) (fun r m' => WT m' ∧ Fx (RS [7]) m0 m' ∧ ∃ v : Int32, r = some (.int v)) 30 [(0, .ref (ad 140)), (1, .ref (ad 1)), (2, .int x2), (3, .int x3), (4, .int x4)] [] m) := by
  intro n
  induction n with
  | zero =>
    intros
    exfalso
    omega
  | succ n ih =>
    intro m x2 x3 x4 w f j1 j2 j3 j4 j5 j6 j7 hn
    refine g_X3_compile_30 Pl_140 ?_
    refine ⟨?_, ?_⟩
    · intro c1
      have k2 := z_le c1
      refine ⟨?_, ?_⟩
      · intro c3
        have r4 := w.at (a := 1) (k := 1) rfl
        have k5 := y_ltl (n := 76) rfl c3
        exact ⟨w, f, _, rfl⟩
      · intro c6
        have r7 := w.at (a := 1) (k := 1) rfl
        have k8 := y_nltl (n := 76) rfl c6
        refine ⟨?_, ?_⟩
        · intro c9
          have k10 := y_eqr (n := 4) rfl c9
          exact ⟨w, f, _, rfl⟩
        · intro c11
          have k12 := y_ner (n := 4) rfl c11
          refine ⟨?_, ?_⟩
          · intro c13
            have k14 := y_eqr (n := 5) rfl c13
            exact ⟨w, f, _, rfl⟩
          · intro c15
            have k16 := y_ner (n := 5) rfl c15
            exact ⟨w, f, _, rfl⟩
    · intro c17
      have k18 := z_nle c17
      refine ⟨?_, ?_⟩
      · exact vpi (by omega) (by omega)
      · have r19 := w.at (a := 140) (k := 5) rfl
        refine (s_X3_take w (Or.inr rfl) (by show (0 : Int) ≤ (x2).toInt; omega) (by show (x2).toInt ≤ (8 : Int); omega) (by show ((m.1 140 5)).toInt ≤ 12 ∨ ((m.1 140 7)).toInt = 0; omega)).to ?_
        rintro _ m1 ⟨w_m1, g20, v2, rfl, p22, p23, p21⟩
        have f_m1 : Fx (RS [7]) m0 m1 := f.tr g20 (RS_sub rfl)
        have p24 : (m1.1 140 5).toInt ≤ 12 ∨ (m1.1 140 7).toInt = 0 := p21
        clear p21
        refine ⟨v2, rfl, ?_⟩
        refine ⟨?_, ?_⟩
        · intro c25
          have k26 := y_ner (n := 0) rfl c25
          have t27 := ti_addc (x := x4) (y := (1 : Int32)) (c := 1) rfl (by omega)
          have r28 := w_m1.at (a := 140) (k := 5) rfl
          exact ih _ _ _ _ w_m1 f_m1 (by show (0 : Int) ≤ (x2).toInt; omega) (by show (x2).toInt ≤ (8 : Int); omega) (by show (0 : Int) ≤ (x3).toInt; omega) (by show (x3).toInt ≤ (76 : Int); omega) (by show (0 : Int) ≤ ((x4 + (1 : Int32))).toInt; omega) (by show ((x4 + (1 : Int32))).toInt ≤ (80 : Int); omega) (by show ((m1.1 140 5)).toInt ≤ 12 ∨ ((m1.1 140 7)).toInt = 0; omega) (by show 80 - ((x4 + (1 : Int32))).toInt < _; omega)
        · intro c29
          have k30 := y_eqr (n := 0) rfl c29
          exact ⟨w_m1, f_m1, _, rfl⟩
set_option maxHeartbeats 4000000 in
theorem s_X3_compile_140 {ad : Nat → Nat} {d : Nat} {m : Wm} {x2 : Int32} (w : WT m) (i1 : (0 : Int) ≤ x2.toInt) (i2 : x2.toInt ≤ (8 : Int)) : Ct ad μX3_compile (d + 3) [.ref (ad 140), .ref (ad 1), .int x2] m (fun r m' => WT m' ∧ Fx (RS [7]) m m' ∧ ∃ v : Int32, r = some (.int v)) := by
  have f : Fx (RS [7]) m m := Fx.rf
  refine v_X3_compile Pl_140 ?_
  refine (s_X3_clear w (Or.inr rfl)).to ?_
  rintro _ m1 ⟨w_m1, g1, rfl, p2⟩
  have f_m1 : Fx (RS [7]) m m1 := f.tr g1 (RS_sub rfl)
  have p3 : (m1.1 140 5).toInt = 0 := p2
  clear p2
  refine ⟨rfl, ?_⟩
  refine ⟨?_, ?_⟩
  · intro c4
    have r5 := w_m1.at (a := 1) (k := 1) rfl
    have k6 := y_ner (n := 0) rfl c4
    have r7 := w_m1.at (a := 140) (k := 5) rfl
    refine (s_X3_openRound w_m1 (Or.inr rfl) (by show ((m1.1 140 5)).toInt ≤ 12; omega)).to ?_
    rintro _ m2 ⟨w_m2, g8, rfl, p9, p10⟩
    have f_m2 : Fx (RS [7]) m m2 := f_m1.tr g8 (RS_sub rfl)
    have p11 : (m2.1 140 5).toInt = ((m1.1 140 5)).toInt + 1 := p9
    clear p9
    have p12 : (m2.1 140 7).toInt = 0 := p10
    clear p10
    refine ⟨rfl, ?_⟩
    have r13 := w_m2.at (a := 1) (k := 1) rfl
    have t14 := ti_ltv (a := (76 : Int32)) (b := (m2.1 1 1)) (c := (76 : Int32)) (d := (m2.1 1 1)) (A := (76)) (B := (m2.1 1 1).toInt) (C := (76)) (D := (m2.1 1 1).toInt) rfl rfl rfl rfl
    have r15 := w_m2.at (a := 140) (k := 5) rfl
    exact (l_X3_compile_140 (m0 := m) 1000000) _ _ _ _ w_m2 f_m2 (by show (0 : Int) ≤ (x2).toInt; omega) (by show (x2).toInt ≤ (8 : Int); omega) (by show (0 : Int) ≤ ((if (76 : Int32) < (m2.1 1 1) then (76 : Int32) else (m2.1 1 1))).toInt; omega) (by show ((if (76 : Int32) < (m2.1 1 1) then (76 : Int32) else (m2.1 1 1))).toInt ≤ (76 : Int); omega) (by show (0 : Int) ≤ (0 : Int); omega) (by show (0 : Int) ≤ (80 : Int); omega) (by show ((m2.1 140 5)).toInt ≤ 12 ∨ ((m2.1 140 7)).toInt = 0; omega) (by show 80 - (0 : Int) < _; omega)
  · intro c16
    have r17 := w_m1.at (a := 1) (k := 1) rfl
    have k18 := y_eqr (n := 0) rfl c16
    exact ⟨w_m1, f_m1, _, rfl⟩
theorem s_X3_compile {ad : Nat → Nat} {d : Nat} {m : Wm} {b0 : Nat} {x2 : Int32} (w : WT m) (hb0 : b0 = 134 ∨ b0 = 140) (i1 : (0 : Int) ≤ x2.toInt) (i2 : x2.toInt ≤ (8 : Int)) : Ct ad μX3_compile (d + 3) [.ref (ad b0), .ref (ad 1), .int x2] m (fun r m' => WT m' ∧ Fx (RS [7]) m m' ∧ ∃ v : Int32, r = some (.int v)) := by
  rcases hb0 with rfl | rfl
  · exact s_X3_compile_134 w i1 i2
  · exact s_X3_compile_140 w i1 i2
set_option maxHeartbeats 4000000 in
theorem l_X3_turnPlaces_134 {ad : Nat → Nat} {d : Nat} {m0 : Wm}  : ∀ n : Nat, (∀ (m : Wm) (x2 x3 : Int32), WT m → Fx (RS [7]) m0 m → (0 : Int) ≤ x2.toInt → x2.toInt ≤ (7 : Int) → (1 : Int) ≤ x3.toInt → x3.toInt ≤ (7 : Int) → ((m.1 134 5).toInt = (m0.1 134 5).toInt) → x3.toInt + 0 < (n : Int) → AW ad E0 μX3_turnPlaces d (fun r m' => WT m' ∧ Fx (RS [7]) m0 m' ∧ r = none ∧ ((m'.1 134 5).toInt = (m0.1 134 5).toInt)) 13 [(0, .ref (ad 134)), (2, .int x2), (3, .int x3)] [] m) := by
  intro n
  induction n with
  | zero =>
    intros
    exfalso
    omega
  | succ n ih =>
    intro m x2 x3 w f j1 j2 j3 j4 j5 hn
    refine g_X3_turnPlaces_13 Pl_134 ?_
    refine ⟨?_, ?_⟩
    · intro c1
      have k2 := y_ler (n := 1) rfl c1
      have w3 : WT (uI m (134 + 5) ((1 : Int32).toNatClampNeg) x2) := w.t rfl (by show (0 : Int) ≤ (x2).toInt; omega) (by show (x2).toInt ≤ 7; omega)
      have f3 : Fx (RS [7]) m0 (uI m (134 + 5) ((1 : Int32).toNatClampNeg) x2) := f.i rfl
      have r4 := w.at (a := 134) (k := 5) rfl
      exact ⟨w3, f3, rfl, (by show ((m.1 134 5)).toInt = (m0.1 134 5).toInt; omega)⟩
    · intro c5
      have k6 := y_nler (n := 1) rfl c5
      refine ⟨?_, ?_⟩
      · have t7 := ti_subc (x := x3) (y := (1 : Int32)) (c := 1) rfl (by omega)
        exact vpi (by omega) (by omega)
      · refine ⟨?_, ?_⟩
        · exact vpi (by omega) (by omega)
        · have r9 := w.at (a := (134 + 5)) (k := ((x3 - (1 : Int32)).toNatClampNeg)) rfl
          have w8 : WT (uI m (134 + 5) x3.toNatClampNeg (m.1 (134 + 5) ((x3 - (1 : Int32)).toNatClampNeg))) := w.t rfl (by show (0 : Int) ≤ ((m.1 (134 + 5) ((x3 - (1 : Int32)).toNatClampNeg))).toInt; omega) (by show ((m.1 (134 + 5) ((x3 - (1 : Int32)).toNatClampNeg))).toInt ≤ 7; omega)
          have f8 : Fx (RS [7]) m0 (uI m (134 + 5) x3.toNatClampNeg (m.1 (134 + 5) ((x3 - (1 : Int32)).toNatClampNeg))) := f.i rfl
          have t10 := ti_addc (x := x3) (y := (-1 : Int32)) (c := -1) rfl (by omega)
          have r11 := w.at (a := 134) (k := 5) rfl
          exact ih _ _ _ w8 f8 (by show (0 : Int) ≤ (x2).toInt; omega) (by show (x2).toInt ≤ (7 : Int); omega) (by show (1 : Int) ≤ ((x3 + (-1 : Int32))).toInt; omega) (by show ((x3 + (-1 : Int32))).toInt ≤ (7 : Int); omega) (by show ((m.1 134 5)).toInt = (m0.1 134 5).toInt; omega) (by show ((x3 + (-1 : Int32))).toInt + 0 < _; omega)
set_option maxHeartbeats 4000000 in
theorem s_X3_turnPlaces_134 {ad : Nat → Nat} {d : Nat} {m : Wm} {x1 : Int32} (w : WT m) (i1 : (2 : Int) ≤ x1.toInt) (i2 : x1.toInt ≤ (8 : Int)) : Ct ad μX3_turnPlaces d [.ref (ad 134), .int x1] m (fun r m' => WT m' ∧ Fx (RS [7]) m m' ∧ r = none ∧ ((m'.1 134 5).toInt = (m.1 134 5).toInt)) := by
  have f : Fx (RS [7]) m m := Fx.rf
  refine v_X3_turnPlaces Pl_134 ?_
  refine ⟨?_, ?_⟩
  · have t1 := ti_subc (x := x1) (y := (1 : Int32)) (c := 1) rfl (by omega)
    exact vpi (by omega) (by omega)
  · have r2 := w.at (a := (134 + 5)) (k := ((x1 - (1 : Int32)).toNatClampNeg)) rfl
    have t3 := ti_subc (x := x1) (y := (1 : Int32)) (c := 1) rfl (by omega)
    have r4 := w.at (a := 134) (k := 5) rfl
    exact (l_X3_turnPlaces_134 (m0 := m) 1000000) _ _ _ w f (by show (0 : Int) ≤ ((m.1 (134 + 5) ((x1 - (1 : Int32)).toNatClampNeg))).toInt; omega) (by show ((m.1 (134 + 5) ((x1 - (1 : Int32)).toNatClampNeg))).toInt ≤ (7 : Int); omega) (by show (1 : Int) ≤ ((x1 - (1 : Int32))).toInt; omega) (by show ((x1 - (1 : Int32))).toInt ≤ (7 : Int); omega) (by show ((m.1 134 5)).toInt = (m.1 134 5).toInt; omega) (by show ((x1 - (1 : Int32))).toInt + 0 < _; omega)
set_option maxHeartbeats 4000000 in
theorem l_X3_turnPlaces_140 {ad : Nat → Nat} {d : Nat} {m0 : Wm}  : ∀ n : Nat, (∀ (m : Wm) (x2 x3 : Int32), WT m → Fx (RS [7]) m0 m → (0 : Int) ≤ x2.toInt → x2.toInt ≤ (7 : Int) → (1 : Int) ≤ x3.toInt → x3.toInt ≤ (7 : Int) → ((m.1 140 5).toInt = (m0.1 140 5).toInt) → x3.toInt + 0 < (n : Int) → AW ad E0 μX3_turnPlaces d (fun r m' => WT m' ∧ Fx (RS [7]) m0 m' ∧ r = none ∧ ((m'.1 140 5).toInt = (m0.1 140 5).toInt)) 13 [(0, .ref (ad 140)), (2, .int x2), (3, .int x3)] [] m) := by
  intro n
  induction n with
  | zero =>
    intros
    exfalso
    omega
  | succ n ih =>
    intro m x2 x3 w f j1 j2 j3 j4 j5 hn
    refine g_X3_turnPlaces_13 Pl_140 ?_
    refine ⟨?_, ?_⟩
    · intro c1
      have k2 := y_ler (n := 1) rfl c1
      have w3 : WT (uI m (140 + 5) ((1 : Int32).toNatClampNeg) x2) := w.t rfl (by show (0 : Int) ≤ (x2).toInt; omega) (by show (x2).toInt ≤ 7; omega)
      have f3 : Fx (RS [7]) m0 (uI m (140 + 5) ((1 : Int32).toNatClampNeg) x2) := f.i rfl
      have r4 := w.at (a := 140) (k := 5) rfl
      exact ⟨w3, f3, rfl, (by show ((m.1 140 5)).toInt = (m0.1 140 5).toInt; omega)⟩
    · intro c5
      have k6 := y_nler (n := 1) rfl c5
      refine ⟨?_, ?_⟩
      · have t7 := ti_subc (x := x3) (y := (1 : Int32)) (c := 1) rfl (by omega)
        exact vpi (by omega) (by omega)
      · refine ⟨?_, ?_⟩
        · exact vpi (by omega) (by omega)
        · have r9 := w.at (a := (140 + 5)) (k := ((x3 - (1 : Int32)).toNatClampNeg)) rfl
          have w8 : WT (uI m (140 + 5) x3.toNatClampNeg (m.1 (140 + 5) ((x3 - (1 : Int32)).toNatClampNeg))) := w.t rfl (by show (0 : Int) ≤ ((m.1 (140 + 5) ((x3 - (1 : Int32)).toNatClampNeg))).toInt; omega) (by show ((m.1 (140 + 5) ((x3 - (1 : Int32)).toNatClampNeg))).toInt ≤ 7; omega)
          have f8 : Fx (RS [7]) m0 (uI m (140 + 5) x3.toNatClampNeg (m.1 (140 + 5) ((x3 - (1 : Int32)).toNatClampNeg))) := f.i rfl
          have t10 := ti_addc (x := x3) (y := (-1 : Int32)) (c := -1) rfl (by omega)
          have r11 := w.at (a := 140) (k := 5) rfl
          exact ih _ _ _ w8 f8 (by show (0 : Int) ≤ (x2).toInt; omega) (by show (x2).toInt ≤ (7 : Int); omega) (by show (1 : Int) ≤ ((x3 + (-1 : Int32))).toInt; omega) (by show ((x3 + (-1 : Int32))).toInt ≤ (7 : Int); omega) (by show ((m.1 140 5)).toInt = (m0.1 140 5).toInt; omega) (by show ((x3 + (-1 : Int32))).toInt + 0 < _; omega)
set_option maxHeartbeats 4000000 in
theorem s_X3_turnPlaces_140 {ad : Nat → Nat} {d : Nat} {m : Wm} {x1 : Int32} (w : WT m) (i1 : (2 : Int) ≤ x1.toInt) (i2 : x1.toInt ≤ (8 : Int)) : Ct ad μX3_turnPlaces d [.ref (ad 140), .int x1] m (fun r m' => WT m' ∧ Fx (RS [7]) m m' ∧ r = none ∧ ((m'.1 140 5).toInt = (m.1 140 5).toInt)) := by
  have f : Fx (RS [7]) m m := Fx.rf
  refine v_X3_turnPlaces Pl_140 ?_
  refine ⟨?_, ?_⟩
  · have t1 := ti_subc (x := x1) (y := (1 : Int32)) (c := 1) rfl (by omega)
    exact vpi (by omega) (by omega)
  · have r2 := w.at (a := (140 + 5)) (k := ((x1 - (1 : Int32)).toNatClampNeg)) rfl
    have t3 := ti_subc (x := x1) (y := (1 : Int32)) (c := 1) rfl (by omega)
    have r4 := w.at (a := 140) (k := 5) rfl
    exact (l_X3_turnPlaces_140 (m0 := m) 1000000) _ _ _ w f (by show (0 : Int) ≤ ((m.1 (140 + 5) ((x1 - (1 : Int32)).toNatClampNeg))).toInt; omega) (by show ((m.1 (140 + 5) ((x1 - (1 : Int32)).toNatClampNeg))).toInt ≤ (7 : Int); omega) (by show (1 : Int) ≤ ((x1 - (1 : Int32))).toInt; omega) (by show ((x1 - (1 : Int32))).toInt ≤ (7 : Int); omega) (by show ((m.1 140 5)).toInt = (m.1 140 5).toInt; omega) (by show ((x1 - (1 : Int32))).toInt + 0 < _; omega)
theorem s_X3_turnPlaces {ad : Nat → Nat} {d : Nat} {m : Wm} {b0 : Nat} {x1 : Int32} (w : WT m) (hb0 : b0 = 134 ∨ b0 = 140) (i1 : (2 : Int) ≤ x1.toInt) (i2 : x1.toInt ≤ (8 : Int)) : Ct ad μX3_turnPlaces d [.ref (ad b0), .int x1] m (fun r m' => WT m' ∧ Fx (RS [7]) m m' ∧ r = none ∧ ((m'.1 b0 5).toInt = (m.1 b0 5).toInt)) := by
  rcases hb0 with rfl | rfl
  · exact s_X3_turnPlaces_134 w i1 i2
  · exact s_X3_turnPlaces_140 w i1 i2
set_option maxHeartbeats 4000000 in
theorem l_X3_fillEachWithEach_134 {ad : Nat → Nat} {d : Nat} {m0 : Wm}  : ∀ n : Nat, (∀ (m : Wm) (x1 x2 x3 : Int32), WT m → Fx (RS [7]) m0 m → (0 : Int) ≤ x1.toInt → x1.toInt ≤ (8 : Int) → (0 : Int) ≤ x2.toInt → x2.toInt ≤ (8 : Int) → (0 : Int) ≤ x3.toInt → x3.toInt ≤ (8 : Int) → ((m.1 134 5).toInt = 0) → 2000 - x3.toInt < (n : Int) → AW ad E0 μX3_fillEachWithEach (d + 1) (fun r m' => WT m' ∧ Fx (RS [7]) m0 m' ∧ r = none) 17 [(0, .ref (ad 134)), (1, .int x1), (2, .int x2), (3, .int x3)] [] m) ∧ (∀ (m : Wm) (x1 x2 x3 : Int32), WT m → Fx (RS [7]) m0 m → (0 : Int) ≤ x1.toInt → x1.toInt ≤ (8 : Int) → (0 : Int) ≤ x2.toInt → x2.toInt ≤ (8 : Int) → (0 : Int) ≤ x3.toInt → x3.toInt ≤ (8 : Int) → ((m.1 134 5).toInt = x3.toInt) → (8 - x3.toInt) * 100 + 50 < (n : Int) → AW ad E0 μX3_fillEachWithEach (d + 1) (fun r m' => WT m' ∧ Fx (RS [7]) m0 m' ∧ r = none) 37 [(0, .ref (ad 134)), (1, .int x1), (2, .int x2), (3, .int x3)] [] m) ∧ (∀ (m : Wm) (x1 x2 x3 x4 : Int32), WT m → Fx (RS [7]) m0 m → (0 : Int) ≤ x1.toInt → x1.toInt ≤ (8 : Int) → (2 : Int) ≤ x2.toInt → x2.toInt ≤ (8 : Int) → (0 : Int) ≤ x3.toInt → x3.toInt ≤ (7 : Int) → (0 : Int) ≤ x4.toInt → x4.toInt ≤ (8 : Int) → ((m.1 134 5).toInt = x3.toInt + 1) → (x3.toInt + 1 < x2.toInt) → (8 - x3.toInt) * 100 + 10 - x4.toInt < (n : Int) → AW ad E0 μX3_fillEachWithEach (d + 1) (fun r m' => WT m' ∧ Fx (RS [7]) m0 m' ∧ r = none) 51 [(0, .ref (ad 134)), (1, .int x1), (2, .int x2), (3, .int x3), (4, .int x4)] [] m) := by
  intro n
  induction n with
  | zero =>
    refine ⟨?_, ?_, ?_⟩ <;> intros <;> exfalso <;> omega
  | succ n ih =>
    refine ⟨?_, ?_, ?_⟩
    · intro m x1 x2 x3 w f j1 j2 j3 j4 j5 j6 j7 hn
      refine g_X3_fillEachWithEach_17 Pl_134 ?_
      refine ⟨?_, ?_⟩
      · intro c1
        have k2 := z_le c1
        have r3 := w.at (a := 134) (k := 5) rfl
        exact ih.2.1 _ _ _ _ w f (by show (0 : Int) ≤ (x1).toInt; omega) (by show (x1).toInt ≤ (8 : Int); omega) (by show (0 : Int) ≤ (x2).toInt; omega) (by show (x2).toInt ≤ (8 : Int); omega) (by show (0 : Int) ≤ (0 : Int); omega) (by show (0 : Int) ≤ (8 : Int); omega) (by show ((m.1 134 5)).toInt = (0 : Int); omega) (by show (8 - (0 : Int)) * 100 + 50 < _; omega)
      · intro c4
        have k5 := z_nle c4
        refine ⟨?_, ?_⟩
        · exact vpi (by omega) (by omega)
        · have w6 : WT (uI m (134 + 5) x3.toNatClampNeg x3) := w.t rfl (by show (0 : Int) ≤ (x3).toInt; omega) (by show (x3).toInt ≤ 7; omega)
          have f6 : Fx (RS [7]) m0 (uI m (134 + 5) x3.toNatClampNeg x3) := f.i rfl
          have t7 := ti_addc (x := x3) (y := (1 : Int32)) (c := 1) rfl (by omega)
          have r8 := w.at (a := 134) (k := 5) rfl
          exact ih.1 _ _ _ _ w6 f6 (by show (0 : Int) ≤ (x1).toInt; omega) (by show (x1).toInt ≤ (8 : Int); omega) (by show (0 : Int) ≤ (x2).toInt; omega) (by show (x2).toInt ≤ (8 : Int); omega) (by show (0 : Int) ≤ ((x3 + (1 : Int32))).toInt; omega) (by show ((x3 + (1 : Int32))).toInt ≤ (8 : Int); omega) (by show ((m.1 134 5)).toInt = 0; omega) (by show 2000 - ((x3 + (1 : Int32))).toInt < _; omega)
    · intro m x1 x2 x3 w f j1 j2 j3 j4 j5 j6 j7 hn
      refine g_X3_fillEachWithEach_37 Pl_134 ?_
      refine ⟨?_, ?_⟩
      · intro c1
        have t2 := ti_subc (x := x2) (y := (1 : Int32)) (c := 1) rfl (by omega)
        have k3 := z_le c1
        exact ⟨w, f, rfl⟩
      · intro c4
        have t5 := ti_subc (x := x2) (y := (1 : Int32)) (c := 1) rfl (by omega)
        have k6 := z_nle c4
        have r7 := w.at (a := 134) (k := 5) rfl
        refine (s_X3_openRound w (Or.inl rfl) (by show ((m.1 134 5)).toInt ≤ 12; omega)).to ?_
        rintro _ m1 ⟨w_m1, g8, rfl, p9, p10⟩
        have f_m1 : Fx (RS [7]) m0 m1 := f.tr g8 (RS_sub rfl)
        have p11 : (m1.1 134 5).toInt = ((m.1 134 5)).toInt + 1 := p9
        clear p9
        have p12 : (m1.1 134 7).toInt = 0 := p10
        clear p10
        refine ⟨rfl, ?_⟩
        have r13 := w_m1.at (a := 134) (k := 5) rfl
        exact ih.2.2 _ _ _ _ _ w_m1 f_m1 (by show (0 : Int) ≤ (x1).toInt; omega) (by show (x1).toInt ≤ (8 : Int); omega) (by show (2 : Int) ≤ (x2).toInt; omega) (by show (x2).toInt ≤ (8 : Int); omega) (by show (0 : Int) ≤ (x3).toInt; omega) (by show (x3).toInt ≤ (7 : Int); omega) (by show (0 : Int) ≤ (0 : Int); omega) (by show (0 : Int) ≤ (8 : Int); omega) (by show ((m1.1 134 5)).toInt = (x3).toInt + 1; omega) (by show (x3).toInt + 1 < (x2).toInt; omega) (by show (8 - (x3).toInt) * 100 + 10 - (0 : Int) < _; omega)
    · intro m x1 x2 x3 x4 w f j1 j2 j3 j4 j5 j6 j7 j8 j9 j10 hn
      refine g_X3_fillEachWithEach_51 Pl_134 ?_
      refine ⟨?_, ?_⟩
      · intro c1
        have t2 := t_div (x := x2) (y := (2 : Int32)) (c := 2) rfl (by decide) (by decide) (by omega)
        have k3 := z_le c1
        refine (s_X3_turnPlaces w (Or.inl rfl) (by show (2 : Int) ≤ (x2).toInt; omega) (by show (x2).toInt ≤ (8 : Int); omega)).to ?_
        rintro _ m1 ⟨w_m1, g4, rfl, p5⟩
        have f_m1 : Fx (RS [7]) m0 m1 := f.tr g4 (RS_sub rfl)
        have p6 : (m1.1 134 5).toInt = ((m.1 134 5)).toInt := p5
        clear p5
        refine ⟨rfl, ?_⟩
        have t7 := ti_addc (x := x3) (y := (1 : Int32)) (c := 1) rfl (by omega)
        have r8 := w_m1.at (a := 134) (k := 5) rfl
        exact ih.2.1 _ _ _ _ w_m1 f_m1 (by show (0 : Int) ≤ (x1).toInt; omega) (by show (x1).toInt ≤ (8 : Int); omega) (by show (0 : Int) ≤ (x2).toInt; omega) (by show (x2).toInt ≤ (8 : Int); omega) (by show (0 : Int) ≤ ((x3 + (1 : Int32))).toInt; omega) (by show ((x3 + (1 : Int32))).toInt ≤ (8 : Int); omega) (by show ((m1.1 134 5)).toInt = ((x3 + (1 : Int32))).toInt; omega) (by show (8 - ((x3 + (1 : Int32))).toInt) * 100 + 50 < _; omega)
      · intro c9
        have t10 := t_div (x := x2) (y := (2 : Int32)) (c := 2) rfl (by decide) (by decide) (by omega)
        have k11 := z_nle c9
        refine ⟨?_, ?_⟩
        · exact vpi (by omega) (by omega)
        · refine ⟨?_, ?_⟩
          · have t12 := ti_subc (x := x2) (y := (1 : Int32)) (c := 1) rfl (by omega)
            have t13 := ti_sub (x := (x2 - (1 : Int32))) (y := x4) (by omega)
            exact vpi (by omega) (by omega)
          · refine ⟨?_, ?_⟩
            · intro c14
              have r15 := w.at (a := (134 + 5)) (k := x4.toNatClampNeg) rfl
              have k16 := z_le c14
              have t17 := ti_addc (x := x4) (y := (1 : Int32)) (c := 1) rfl (by omega)
              have r18 := w.at (a := 134) (k := 5) rfl
              exact ih.2.2 _ _ _ _ _ w f (by show (0 : Int) ≤ (x1).toInt; omega) (by show (x1).toInt ≤ (8 : Int); omega) (by show (2 : Int) ≤ (x2).toInt; omega) (by show (x2).toInt ≤ (8 : Int); omega) (by show (0 : Int) ≤ (x3).toInt; omega) (by show (x3).toInt ≤ (7 : Int); omega) (by show (0 : Int) ≤ ((x4 + (1 : Int32))).toInt; omega) (by show ((x4 + (1 : Int32))).toInt ≤ (8 : Int); omega) (by show ((m.1 134 5)).toInt = (x3).toInt + 1; omega) (by show (x3).toInt + 1 < (x2).toInt; omega) (by show (8 - (x3).toInt) * 100 + 10 - ((x4 + (1 : Int32))).toInt < _; omega)
            · intro c19
              have r20 := w.at (a := (134 + 5)) (k := x4.toNatClampNeg) rfl
              have k21 := z_nle c19
              refine ⟨?_, ?_⟩
              · intro c22
                have r23 := w.at (a := (134 + 5)) (k := (((x2 - (1 : Int32)) - x4).toNatClampNeg)) rfl
                have k24 := z_le c22
                have t25 := ti_addc (x := x4) (y := (1 : Int32)) (c := 1) rfl (by omega)
                have r26 := w.at (a := 134) (k := 5) rfl
                exact ih.2.2 _ _ _ _ _ w f (by show (0 : Int) ≤ (x1).toInt; omega) (by show (x1).toInt ≤ (8 : Int); omega) (by show (2 : Int) ≤ (x2).toInt; omega) (by show (x2).toInt ≤ (8 : Int); omega) (by show (0 : Int) ≤ (x3).toInt; omega) (by show (x3).toInt ≤ (7 : Int); omega) (by show (0 : Int) ≤ ((x4 + (1 : Int32))).toInt; omega) (by show ((x4 + (1 : Int32))).toInt ≤ (8 : Int); omega) (by show ((m.1 134 5)).toInt = (x3).toInt + 1; omega) (by show (x3).toInt + 1 < (x2).toInt; omega) (by show (8 - (x3).toInt) * 100 + 10 - ((x4 + (1 : Int32))).toInt < _; omega)
              · intro c27
                have r28 := w.at (a := (134 + 5)) (k := (((x2 - (1 : Int32)) - x4).toNatClampNeg)) rfl
                have k29 := z_nle c27
                refine (s_X3_addGame w (Or.inl rfl) (by show (0 : Int) ≤ ((m.1 (134 + 5) x4.toNatClampNeg)).toInt; omega) (by show ((m.1 (134 + 5) x4.toNatClampNeg)).toInt ≤ (7 : Int); omega) (by show (0 : Int) ≤ ((m.1 (134 + 5) (((x2 - (1 : Int32)) - x4).toNatClampNeg))).toInt; omega) (by show ((m.1 (134 + 5) (((x2 - (1 : Int32)) - x4).toNatClampNeg))).toInt ≤ (7 : Int); omega)).to ?_
                rintro _ m2 ⟨w_m2, g30, rfl, p31⟩
                have f_m2 : Fx (RS [7]) m0 m2 := f.tr g30 (RS_sub rfl)
                have p32 : (m2.1 134 5).toInt = ((m.1 134 5)).toInt := p31
                clear p31
                refine ⟨rfl, ?_⟩
                have t33 := ti_addc (x := x4) (y := (1 : Int32)) (c := 1) rfl (by omega)
                have r34 := w_m2.at (a := 134) (k := 5) rfl
                exact ih.2.2 _ _ _ _ _ w_m2 f_m2 (by show (0 : Int) ≤ (x1).toInt; omega) (by show (x1).toInt ≤ (8 : Int); omega) (by show (2 : Int) ≤ (x2).toInt; omega) (by show (x2).toInt ≤ (8 : Int); omega) (by show (0 : Int) ≤ (x3).toInt; omega) (by show (x3).toInt ≤ (7 : Int); omega) (by show (0 : Int) ≤ ((x4 + (1 : Int32))).toInt; omega) (by show ((x4 + (1 : Int32))).toInt ≤ (8 : Int); omega) (by show ((m2.1 134 5)).toInt = (x3).toInt + 1; omega) (by show (x3).toInt + 1 < (x2).toInt; omega) (by show (8 - (x3).toInt) * 100 + 10 - ((x4 + (1 : Int32))).toInt < _; omega)
set_option maxHeartbeats 4000000 in
theorem s_X3_fillEachWithEach_134 {ad : Nat → Nat} {d : Nat} {m : Wm} {x1 : Int32} (w : WT m) (i1 : (0 : Int) ≤ x1.toInt) (i2 : x1.toInt ≤ (8 : Int)) : Ct ad μX3_fillEachWithEach (d + 1) [.ref (ad 134), .int x1] m (fun r m' => WT m' ∧ Fx (RS [7]) m m' ∧ r = none) := by
  have f : Fx (RS [7]) m m := Fx.rf
  refine v_X3_fillEachWithEach Pl_134 ?_
  refine (s_X3_clear w (Or.inl rfl)).to ?_
  rintro _ m1 ⟨w_m1, g1, rfl, p2⟩
  have f_m1 : Fx (RS [7]) m m1 := f.tr g1 (RS_sub rfl)
  have p3 : (m1.1 134 5).toInt = 0 := p2
  clear p2
  refine ⟨rfl, ?_⟩
  have t4 := t_and1 x1
  have t5 := ti_add (x := x1) (y := (x1 &&& (1 : Int32))) (by omega)
  have t6 := ti_ltv (a := (8 : Int32)) (b := (x1 + (x1 &&& (1 : Int32)))) (c := (8 : Int32)) (d := (x1 + (x1 &&& (1 : Int32)))) (A := (8)) (B := (x1 + (x1 &&& (1 : Int32))).toInt) (C := (8)) (D := (x1 + (x1 &&& (1 : Int32))).toInt) rfl rfl rfl rfl
  have r7 := w_m1.at (a := 134) (k := 5) rfl
  exact (l_X3_fillEachWithEach_134 (m0 := m) 1000000).1 _ _ _ _ w_m1 f_m1 (by show (0 : Int) ≤ (x1).toInt; omega) (by show (x1).toInt ≤ (8 : Int); omega) (by show (0 : Int) ≤ ((if (8 : Int32) < (x1 + (x1 &&& (1 : Int32))) then (8 : Int32) else (x1 + (x1 &&& (1 : Int32))))).toInt; omega) (by show ((if (8 : Int32) < (x1 + (x1 &&& (1 : Int32))) then (8 : Int32) else (x1 + (x1 &&& (1 : Int32))))).toInt ≤ (8 : Int); omega) (by show (0 : Int) ≤ (0 : Int); omega) (by show (0 : Int) ≤ (8 : Int); omega) (by show ((m1.1 134 5)).toInt = 0; omega) (by show 2000 - (0 : Int) < _; omega)
set_option maxHeartbeats 4000000 in
theorem l_X3_fillEachWithEach_140 {ad : Nat → Nat} {d : Nat} {m0 : Wm}  : ∀ n : Nat, (∀ (m : Wm) (x1 x2 x3 : Int32), WT m → Fx (RS [7]) m0 m → (0 : Int) ≤ x1.toInt → x1.toInt ≤ (8 : Int) → (0 : Int) ≤ x2.toInt → x2.toInt ≤ (8 : Int) → (0 : Int) ≤ x3.toInt → x3.toInt ≤ (8 : Int) → ((m.1 140 5).toInt = 0) → 2000 - x3.toInt < (n : Int) → AW ad E0 μX3_fillEachWithEach (d + 1) (fun r m' => WT m' ∧ Fx (RS [7]) m0 m' ∧ r = none) 17 [(0, .ref (ad 140)), (1, .int x1), (2, .int x2), (3, .int x3)] [] m) ∧ (∀ (m : Wm) (x1 x2 x3 : Int32), WT m → Fx (RS [7]) m0 m → (0 : Int) ≤ x1.toInt → x1.toInt ≤ (8 : Int) → (0 : Int) ≤ x2.toInt → x2.toInt ≤ (8 : Int) → (0 : Int) ≤ x3.toInt → x3.toInt ≤ (8 : Int) → ((m.1 140 5).toInt = x3.toInt) → (8 - x3.toInt) * 100 + 50 < (n : Int) → AW ad E0 μX3_fillEachWithEach (d + 1) (fun r m' => WT m' ∧ Fx (RS [7]) m0 m' ∧ r = none) 37 [(0, .ref (ad 140)), (1, .int x1), (2, .int x2), (3, .int x3)] [] m) ∧ (∀ (m : Wm) (x1 x2 x3 x4 : Int32), WT m → Fx (RS [7]) m0 m → (0 : Int) ≤ x1.toInt → x1.toInt ≤ (8 : Int) → (2 : Int) ≤ x2.toInt → x2.toInt ≤ (8 : Int) → (0 : Int) ≤ x3.toInt → x3.toInt ≤ (7 : Int) → (0 : Int) ≤ x4.toInt → x4.toInt ≤ (8 : Int) → ((m.1 140 5).toInt = x3.toInt + 1) → (x3.toInt + 1 < x2.toInt) → (8 - x3.toInt) * 100 + 10 - x4.toInt < (n : Int) → AW ad E0 μX3_fillEachWithEach (d + 1) (fun r m' => WT m' ∧ Fx (RS [7]) m0 m' ∧ r = none) 51 [(0, .ref (ad 140)), (1, .int x1), (2, .int x2), (3, .int x3), (4, .int x4)] [] m) := by
  intro n
  induction n with
  | zero =>
    refine ⟨?_, ?_, ?_⟩ <;> intros <;> exfalso <;> omega
  | succ n ih =>
    refine ⟨?_, ?_, ?_⟩
    · intro m x1 x2 x3 w f j1 j2 j3 j4 j5 j6 j7 hn
      refine g_X3_fillEachWithEach_17 Pl_140 ?_
      refine ⟨?_, ?_⟩
      · intro c1
        have k2 := z_le c1
        have r3 := w.at (a := 140) (k := 5) rfl
        exact ih.2.1 _ _ _ _ w f (by show (0 : Int) ≤ (x1).toInt; omega) (by show (x1).toInt ≤ (8 : Int); omega) (by show (0 : Int) ≤ (x2).toInt; omega) (by show (x2).toInt ≤ (8 : Int); omega) (by show (0 : Int) ≤ (0 : Int); omega) (by show (0 : Int) ≤ (8 : Int); omega) (by show ((m.1 140 5)).toInt = (0 : Int); omega) (by show (8 - (0 : Int)) * 100 + 50 < _; omega)
      · intro c4
        have k5 := z_nle c4
        refine ⟨?_, ?_⟩
        · exact vpi (by omega) (by omega)
        · have w6 : WT (uI m (140 + 5) x3.toNatClampNeg x3) := w.t rfl (by show (0 : Int) ≤ (x3).toInt; omega) (by show (x3).toInt ≤ 7; omega)
          have f6 : Fx (RS [7]) m0 (uI m (140 + 5) x3.toNatClampNeg x3) := f.i rfl
          have t7 := ti_addc (x := x3) (y := (1 : Int32)) (c := 1) rfl (by omega)
          have r8 := w.at (a := 140) (k := 5) rfl
          exact ih.1 _ _ _ _ w6 f6 (by show (0 : Int) ≤ (x1).toInt; omega) (by show (x1).toInt ≤ (8 : Int); omega) (by show (0 : Int) ≤ (x2).toInt; omega) (by show (x2).toInt ≤ (8 : Int); omega) (by show (0 : Int) ≤ ((x3 + (1 : Int32))).toInt; omega) (by show ((x3 + (1 : Int32))).toInt ≤ (8 : Int); omega) (by show ((m.1 140 5)).toInt = 0; omega) (by show 2000 - ((x3 + (1 : Int32))).toInt < _; omega)
    · intro m x1 x2 x3 w f j1 j2 j3 j4 j5 j6 j7 hn
      refine g_X3_fillEachWithEach_37 Pl_140 ?_
      refine ⟨?_, ?_⟩
      · intro c1
        have t2 := ti_subc (x := x2) (y := (1 : Int32)) (c := 1) rfl (by omega)
        have k3 := z_le c1
        exact ⟨w, f, rfl⟩
      · intro c4
        have t5 := ti_subc (x := x2) (y := (1 : Int32)) (c := 1) rfl (by omega)
        have k6 := z_nle c4
        have r7 := w.at (a := 140) (k := 5) rfl
        refine (s_X3_openRound w (Or.inr rfl) (by show ((m.1 140 5)).toInt ≤ 12; omega)).to ?_
        rintro _ m1 ⟨w_m1, g8, rfl, p9, p10⟩
        have f_m1 : Fx (RS [7]) m0 m1 := f.tr g8 (RS_sub rfl)
        have p11 : (m1.1 140 5).toInt = ((m.1 140 5)).toInt + 1 := p9
        clear p9
        have p12 : (m1.1 140 7).toInt = 0 := p10
        clear p10
        refine ⟨rfl, ?_⟩
        have r13 := w_m1.at (a := 140) (k := 5) rfl
        exact ih.2.2 _ _ _ _ _ w_m1 f_m1 (by show (0 : Int) ≤ (x1).toInt; omega) (by show (x1).toInt ≤ (8 : Int); omega) (by show (2 : Int) ≤ (x2).toInt; omega) (by show (x2).toInt ≤ (8 : Int); omega) (by show (0 : Int) ≤ (x3).toInt; omega) (by show (x3).toInt ≤ (7 : Int); omega) (by show (0 : Int) ≤ (0 : Int); omega) (by show (0 : Int) ≤ (8 : Int); omega) (by show ((m1.1 140 5)).toInt = (x3).toInt + 1; omega) (by show (x3).toInt + 1 < (x2).toInt; omega) (by show (8 - (x3).toInt) * 100 + 10 - (0 : Int) < _; omega)
    · intro m x1 x2 x3 x4 w f j1 j2 j3 j4 j5 j6 j7 j8 j9 j10 hn
      refine g_X3_fillEachWithEach_51 Pl_140 ?_
      refine ⟨?_, ?_⟩
      · intro c1
        have t2 := t_div (x := x2) (y := (2 : Int32)) (c := 2) rfl (by decide) (by decide) (by omega)
        have k3 := z_le c1
        refine (s_X3_turnPlaces w (Or.inr rfl) (by show (2 : Int) ≤ (x2).toInt; omega) (by show (x2).toInt ≤ (8 : Int); omega)).to ?_
        rintro _ m1 ⟨w_m1, g4, rfl, p5⟩
        have f_m1 : Fx (RS [7]) m0 m1 := f.tr g4 (RS_sub rfl)
        have p6 : (m1.1 140 5).toInt = ((m.1 140 5)).toInt := p5
        clear p5
        refine ⟨rfl, ?_⟩
        have t7 := ti_addc (x := x3) (y := (1 : Int32)) (c := 1) rfl (by omega)
        have r8 := w_m1.at (a := 140) (k := 5) rfl
        exact ih.2.1 _ _ _ _ w_m1 f_m1 (by show (0 : Int) ≤ (x1).toInt; omega) (by show (x1).toInt ≤ (8 : Int); omega) (by show (0 : Int) ≤ (x2).toInt; omega) (by show (x2).toInt ≤ (8 : Int); omega) (by show (0 : Int) ≤ ((x3 + (1 : Int32))).toInt; omega) (by show ((x3 + (1 : Int32))).toInt ≤ (8 : Int); omega) (by show ((m1.1 140 5)).toInt = ((x3 + (1 : Int32))).toInt; omega) (by show (8 - ((x3 + (1 : Int32))).toInt) * 100 + 50 < _; omega)
      · intro c9
        have t10 := t_div (x := x2) (y := (2 : Int32)) (c := 2) rfl (by decide) (by decide) (by omega)
        have k11 := z_nle c9
        refine ⟨?_, ?_⟩
        · exact vpi (by omega) (by omega)
        · refine ⟨?_, ?_⟩
          · have t12 := ti_subc (x := x2) (y := (1 : Int32)) (c := 1) rfl (by omega)
            have t13 := ti_sub (x := (x2 - (1 : Int32))) (y := x4) (by omega)
            exact vpi (by omega) (by omega)
          · refine ⟨?_, ?_⟩
            · intro c14
              have r15 := w.at (a := (140 + 5)) (k := x4.toNatClampNeg) rfl
              have k16 := z_le c14
              have t17 := ti_addc (x := x4) (y := (1 : Int32)) (c := 1) rfl (by omega)
              have r18 := w.at (a := 140) (k := 5) rfl
              exact ih.2.2 _ _ _ _ _ w f (by show (0 : Int) ≤ (x1).toInt; omega) (by show (x1).toInt ≤ (8 : Int); omega) (by show (2 : Int) ≤ (x2).toInt; omega) (by show (x2).toInt ≤ (8 : Int); omega) (by show (0 : Int) ≤ (x3).toInt; omega) (by show (x3).toInt ≤ (7 : Int); omega) (by show (0 : Int) ≤ ((x4 + (1 : Int32))).toInt; omega) (by show ((x4 + (1 : Int32))).toInt ≤ (8 : Int); omega) (by show ((m.1 140 5)).toInt = (x3).toInt + 1; omega) (by show (x3).toInt + 1 < (x2).toInt; omega) (by show (8 - (x3).toInt) * 100 + 10 - ((x4 + (1 : Int32))).toInt < _; omega)
            · intro c19
              have r20 := w.at (a := (140 + 5)) (k := x4.toNatClampNeg) rfl
              have k21 := z_nle c19
              refine ⟨?_, ?_⟩
              · intro c22
                have r23 := w.at (a := (140 + 5)) (k := (((x2 - (1 : Int32)) - x4).toNatClampNeg)) rfl
                have k24 := z_le c22
                have t25 := ti_addc (x := x4) (y := (1 : Int32)) (c := 1) rfl (by omega)
                have r26 := w.at (a := 140) (k := 5) rfl
                exact ih.2.2 _ _ _ _ _ w f (by show (0 : Int) ≤ (x1).toInt; omega) (by show (x1).toInt ≤ (8 : Int); omega) (by show (2 : Int) ≤ (x2).toInt; omega) (by show (x2).toInt ≤ (8 : Int); omega) (by show (0 : Int) ≤ (x3).toInt; omega) (by show (x3).toInt ≤ (7 : Int); omega) (by show (0 : Int) ≤ ((x4 + (1 : Int32))).toInt; omega) (by show ((x4 + (1 : Int32))).toInt ≤ (8 : Int); omega) (by show ((m.1 140 5)).toInt = (x3).toInt + 1; omega) (by show (x3).toInt + 1 < (x2).toInt; omega) (by show (8 - (x3).toInt) * 100 + 10 - ((x4 + (1 : Int32))).toInt < _; omega)
              · intro c27
                have r28 := w.at (a := (140 + 5)) (k := (((x2 - (1 : Int32)) - x4).toNatClampNeg)) rfl
                have k29 := z_nle c27
                refine (s_X3_addGame w (Or.inr rfl) (by show (0 : Int) ≤ ((m.1 (140 + 5) x4.toNatClampNeg)).toInt; omega) (by show ((m.1 (140 + 5) x4.toNatClampNeg)).toInt ≤ (7 : Int); omega) (by show (0 : Int) ≤ ((m.1 (140 + 5) (((x2 - (1 : Int32)) - x4).toNatClampNeg))).toInt; omega) (by show ((m.1 (140 + 5) (((x2 - (1 : Int32)) - x4).toNatClampNeg))).toInt ≤ (7 : Int); omega)).to ?_
                rintro _ m2 ⟨w_m2, g30, rfl, p31⟩
                have f_m2 : Fx (RS [7]) m0 m2 := f.tr g30 (RS_sub rfl)
                have p32 : (m2.1 140 5).toInt = ((m.1 140 5)).toInt := p31
                clear p31
                refine ⟨rfl, ?_⟩
                have t33 := ti_addc (x := x4) (y := (1 : Int32)) (c := 1) rfl (by omega)
                have r34 := w_m2.at (a := 140) (k := 5) rfl
                exact ih.2.2 _ _ _ _ _ w_m2 f_m2 (by show (0 : Int) ≤ (x1).toInt; omega) (by show (x1).toInt ≤ (8 : Int); omega) (by show (2 : Int) ≤ (x2).toInt; omega) (by show (x2).toInt ≤ (8 : Int); omega) (by show (0 : Int) ≤ (x3).toInt; omega) (by show (x3).toInt ≤ (7 : Int); omega) (by show (0 : Int) ≤ ((x4 + (1 : Int32))).toInt; omega) (by show ((x4 + (1 : Int32))).toInt ≤ (8 : Int); omega) (by show ((m2.1 140 5)).toInt = (x3).toInt + 1; omega) (by show (x3).toInt + 1 < (x2).toInt; omega) (by show (8 - (x3).toInt) * 100 + 10 - ((x4 + (1 : Int32))).toInt < _; omega)
set_option maxHeartbeats 4000000 in
theorem s_X3_fillEachWithEach_140 {ad : Nat → Nat} {d : Nat} {m : Wm} {x1 : Int32} (w : WT m) (i1 : (0 : Int) ≤ x1.toInt) (i2 : x1.toInt ≤ (8 : Int)) : Ct ad μX3_fillEachWithEach (d + 1) [.ref (ad 140), .int x1] m (fun r m' => WT m' ∧ Fx (RS [7]) m m' ∧ r = none) := by
  have f : Fx (RS [7]) m m := Fx.rf
  refine v_X3_fillEachWithEach Pl_140 ?_
  refine (s_X3_clear w (Or.inr rfl)).to ?_
  rintro _ m1 ⟨w_m1, g1, rfl, p2⟩
  have f_m1 : Fx (RS [7]) m m1 := f.tr g1 (RS_sub rfl)
  have p3 : (m1.1 140 5).toInt = 0 := p2
  clear p2
  refine ⟨rfl, ?_⟩
  have t4 := t_and1 x1
  have t5 := ti_add (x := x1) (y := (x1 &&& (1 : Int32))) (by omega)
  have t6 := ti_ltv (a := (8 : Int32)) (b := (x1 + (x1 &&& (1 : Int32)))) (c := (8 : Int32)) (d := (x1 + (x1 &&& (1 : Int32)))) (A := (8)) (B := (x1 + (x1 &&& (1 : Int32))).toInt) (C := (8)) (D := (x1 + (x1 &&& (1 : Int32))).toInt) rfl rfl rfl rfl
  have r7 := w_m1.at (a := 140) (k := 5) rfl
  exact (l_X3_fillEachWithEach_140 (m0 := m) 1000000).1 _ _ _ _ w_m1 f_m1 (by show (0 : Int) ≤ (x1).toInt; omega) (by show (x1).toInt ≤ (8 : Int); omega) (by show (0 : Int) ≤ ((if (8 : Int32) < (x1 + (x1 &&& (1 : Int32))) then (8 : Int32) else (x1 + (x1 &&& (1 : Int32))))).toInt; omega) (by show ((if (8 : Int32) < (x1 + (x1 &&& (1 : Int32))) then (8 : Int32) else (x1 + (x1 &&& (1 : Int32))))).toInt ≤ (8 : Int); omega) (by show (0 : Int) ≤ (0 : Int); omega) (by show (0 : Int) ≤ (8 : Int); omega) (by show ((m1.1 140 5)).toInt = 0; omega) (by show 2000 - (0 : Int) < _; omega)
theorem s_X3_fillEachWithEach {ad : Nat → Nat} {d : Nat} {m : Wm} {b0 : Nat} {x1 : Int32} (w : WT m) (hb0 : b0 = 134 ∨ b0 = 140) (i1 : (0 : Int) ≤ x1.toInt) (i2 : x1.toInt ≤ (8 : Int)) : Ct ad μX3_fillEachWithEach (d + 1) [.ref (ad b0), .int x1] m (fun r m' => WT m' ∧ Fx (RS [7]) m m' ∧ r = none) := by
  rcases hb0 with rfl | rfl
  · exact s_X3_fillEachWithEach_134 w i1 i2
  · exact s_X3_fillEachWithEach_140 w i1 i2
