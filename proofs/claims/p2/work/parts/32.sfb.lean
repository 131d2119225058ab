/-! SAFETY OF THE CLASS, BY PROGRAM (X3_clear .. X5_compile) -/
set_option maxHeartbeats 4000000 in
theorem s_X3_clear_134 {ad : Nat → Nat} {d : Nat} {m : Wm} (w : WT m) : Ct ad μX3_clear d [.ref (ad 134)] m (fun r m' => WT m' ∧ Fx (RS [7]) m m' ∧ r = none ∧ ((m'.1 134 5).toInt = 0)) := by
  have f : Fx (RS [7]) m m := Fx.rf
  refine v_X3_clear Pl_134 ?_
  have tl0 : (0 : Int32).toInt = 0 := rfl
  have w1 : WT (uI m 134 5 (0 : Int32)) := w.t rfl (by show (0 : Int) ≤ ((0 : Int32)).toInt; first | omega | decide) (by show ((0 : Int32)).toInt ≤ 13; first | omega | decide)
  have f1 : Fx (RS [7]) m (uI m 134 5 (0 : Int32)) := f.i rfl
  have w2 : WT (uI (uI m 134 5 (0 : Int32)) 134 6 (0 : Int32)) := w1.t rfl (by show (0 : Int) ≤ ((0 : Int32)).toInt; first | omega | decide) (by show ((0 : Int32)).toInt ≤ 48; first | omega | decide)
  have f2 : Fx (RS [7]) m (uI (uI m 134 5 (0 : Int32)) 134 6 (0 : Int32)) := f1.i rfl
  exact ⟨w2, f2, rfl, (by show ((0 : Int32)).toInt = 0; omega)⟩
set_option maxHeartbeats 4000000 in
theorem s_X3_clear_140 {ad : Nat → Nat} {d : Nat} {m : Wm} (w : WT m) : Ct ad μX3_clear d [.ref (ad 140)] m (fun r m' => WT m' ∧ Fx (RS [7]) m m' ∧ r = none ∧ ((m'.1 140 5).toInt = 0)) := by
  have f : Fx (RS [7]) m m := Fx.rf
  refine v_X3_clear Pl_140 ?_
  have tl0 : (0 : Int32).toInt = 0 := rfl
  have w1 : WT (uI m 140 5 (0 : Int32)) := w.t rfl (by show (0 : Int) ≤ ((0 : Int32)).toInt; first | omega | decide) (by show ((0 : Int32)).toInt ≤ 13; first | omega | decide)
  have f1 : Fx (RS [7]) m (uI m 140 5 (0 : Int32)) := f.i rfl
  have w2 : WT (uI (uI m 140 5 (0 : Int32)) 140 6 (0 : Int32)) := w1.t rfl (by show (0 : Int) ≤ ((0 : Int32)).toInt; first | omega | decide) (by show ((0 : Int32)).toInt ≤ 48; first | omega | decide)
  have f2 : Fx (RS [7]) m (uI (uI m 140 5 (0 : Int32)) 140 6 (0 : Int32)) := f1.i rfl
  exact ⟨w2, f2, rfl, (by show ((0 : Int32)).toInt = 0; omega)⟩
theorem s_X3_clear {ad : Nat → Nat} {d : Nat} {m : Wm} {b0 : Nat} (w : WT m) (hb0 : b0 = 134 ∨ b0 = 140) : Ct ad μX3_clear d [.ref (ad b0)] m (fun r m' => WT m' ∧ Fx (RS [7]) m m' ∧ r = none ∧ ((m'.1 b0 5).toInt = 0)) := by
  rcases hb0 with rfl | rfl
  · exact s_X3_clear_134 w
  · exact s_X3_clear_140 w
set_option maxHeartbeats 4000000 in
theorem s_X3_begin_134 {ad : Nat → Nat} {d : Nat} {m : Wm} {x1 : Int32} (w : WT m) : Ct ad μX3_begin d [.ref (ad 134), .int x1] m (fun r m' => WT m' ∧ Fx (RS []) m m' ∧ ∃ v : Int32, r = some (.int v) ∧ (0 : Int) ≤ v.toInt ∧ v.toInt ≤ 48) := by
  have f : Fx (RS []) m m := Fx.rf
  refine v_X3_begin Pl_134 ?_
  have tl0 : (0 : Int32).toInt = 0 := rfl
  refine ⟨?_, ?_⟩
  · intro c1
    have k2 := z_lt c1
    have r3 := w.at (a := 134) (k := 6) rfl
    exact ⟨w, f, _, rfl, (by show (0 : Int) ≤ ((m.1 134 6)).toInt; omega), (by show ((m.1 134 6)).toInt ≤ 48; omega)⟩
  · intro c4
    have k5 := z_nlt c4
    refine ⟨?_, ?_⟩
    · intro c6
      have r7 := w.at (a := 134) (k := 5) rfl
      have k8 := z_le c6
      have r9 := w.at (a := 134) (k := 6) rfl
      exact ⟨w, f, _, rfl, (by show (0 : Int) ≤ ((m.1 134 6)).toInt; omega), (by show ((m.1 134 6)).toInt ≤ 48; omega)⟩
    · intro c10
      have r11 := w.at (a := 134) (k := 5) rfl
      have k12 := z_nle c10
      refine ⟨?_, ?_⟩
      · exact vpi (by omega) (by omega)
      · have r13 := w.at (a := (134 + 4)) (k := x1.toNatClampNeg) rfl
        exact ⟨w, f, _, rfl, (by show (0 : Int) ≤ ((m.1 (134 + 4) x1.toNatClampNeg)).toInt; omega), (by show ((m.1 (134 + 4) x1.toNatClampNeg)).toInt ≤ 48; omega)⟩
set_option maxHeartbeats 4000000 in
theorem s_X3_begin_140 {ad : Nat → Nat} {d : Nat} {m : Wm} {x1 : Int32} (w : WT m) : Ct ad μX3_begin d [.ref (ad 140), .int x1] m (fun r m' => WT m' ∧ Fx (RS []) m m' ∧ ∃ v : Int32, r = some (.int v) ∧ (0 : Int) ≤ v.toInt ∧ v.toInt ≤ 48) := by
  have f : Fx (RS []) m m := Fx.rf
  refine v_X3_begin Pl_140 ?_
  have tl0 : (0 : Int32).toInt = 0 := rfl
  refine ⟨?_, ?_⟩
  · intro c1
    have k2 := z_lt c1
    have r3 := w.at (a := 140) (k := 6) rfl
    exact ⟨w, f, _, rfl, (by show (0 : Int) ≤ ((m.1 140 6)).toInt; omega), (by show ((m.1 140 6)).toInt ≤ 48; omega)⟩
  · intro c4
    have k5 := z_nlt c4
    refine ⟨?_, ?_⟩
    · intro c6
      have r7 := w.at (a := 140) (k := 5) rfl
      have k8 := z_le c6
      have r9 := w.at (a := 140) (k := 6) rfl
      exact ⟨w, f, _, rfl, (by show (0 : Int) ≤ ((m.1 140 6)).toInt; omega), (by show ((m.1 140 6)).toInt ≤ 48; omega)⟩
    · intro c10
      have r11 := w.at (a := 140) (k := 5) rfl
      have k12 := z_nle c10
      refine ⟨?_, ?_⟩
      · exact vpi (by omega) (by omega)
      · have r13 := w.at (a := (140 + 4)) (k := x1.toNatClampNeg) rfl
        exact ⟨w, f, _, rfl, (by show (0 : Int) ≤ ((m.1 (140 + 4) x1.toNatClampNeg)).toInt; omega), (by show ((m.1 (140 + 4) x1.toNatClampNeg)).toInt ≤ 48; omega)⟩
theorem s_X3_begin {ad : Nat → Nat} {d : Nat} {m : Wm} {b0 : Nat} {x1 : Int32} (w : WT m) (hb0 : b0 = 134 ∨ b0 = 140) : Ct ad μX3_begin d [.ref (ad b0), .int x1] m (fun r m' => WT m' ∧ Fx (RS []) m m' ∧ ∃ v : Int32, r = some (.int v) ∧ (0 : Int) ≤ v.toInt ∧ v.toInt ≤ 48) := by
  rcases hb0 with rfl | rfl
  · exact s_X3_begin_134 w
  · exact s_X3_begin_140 w
set_option maxHeartbeats 4000000 in
theorem s_X3_after_134 {ad : Nat → Nat} {d : Nat} {m : Wm} {x1 : Int32} (w : WT m) : Ct ad μX3_after d [.ref (ad 134), .int x1] m (fun r m' => WT m' ∧ Fx (RS []) m m' ∧ ∃ v : Int32, r = some (.int v)) := by
  have f : Fx (RS []) m m := Fx.rf
  refine v_X3_after Pl_134 ?_
  have tl1 : (1 : Int32).toInt = 1 := rfl
  have tl0 : (0 : Int32).toInt = 0 := rfl
  refine ⟨?_, ?_⟩
  · intro c1
    have r2 := w.at (a := 134) (k := 5) rfl
    have k3 := z_le c1
    exact ⟨w, f, _, rfl⟩
  · intro c4
    have r5 := w.at (a := 134) (k := 5) rfl
    have k6 := z_nle c4
    exact ⟨w, f, _, rfl⟩
set_option maxHeartbeats 4000000 in
theorem s_X3_after_140 {ad : Nat → Nat} {d : Nat} {m : Wm} {x1 : Int32} (w : WT m) : Ct ad μX3_after d [.ref (ad 140), .int x1] m (fun r m' => WT m' ∧ Fx (RS []) m m' ∧ ∃ v : Int32, r = some (.int v)) := by
  have f : Fx (RS []) m m := Fx.rf
  refine v_X3_after Pl_140 ?_
  have tl1 : (1 : Int32).toInt = 1 := rfl
  have tl0 : (0 : Int32).toInt = 0 := rfl
  refine ⟨?_, ?_⟩
  · intro c1
    have r2 := w.at (a := 140) (k := 5) rfl
    have k3 := z_le c1
    exact ⟨w, f, _, rfl⟩
  · intro c4
    have r5 := w.at (a := 140) (k := 5) rfl
    have k6 := z_nle c4
    exact ⟨w, f, _, rfl⟩
theorem s_X3_after {ad : Nat → Nat} {d : Nat} {m : Wm} {b0 : Nat} {x1 : Int32} (w : WT m) (hb0 : b0 = 134 ∨ b0 = 140) : Ct ad μX3_after d [.ref (ad b0), .int x1] m (fun r m' => WT m' ∧ Fx (RS []) m m' ∧ ∃ v : Int32, r = some (.int v)) := by
  rcases hb0 with rfl | rfl
  · exact s_X3_after_134 w
  · exact s_X3_after_140 w
set_option maxHeartbeats 4000000 in
theorem l_X3_openRound_134 {ad : Nat → Nat} {d : Nat} {m0 : Wm}  : ∀ n : Nat, (∀ (m : Wm), WT m → Fx (RS [7]) m0 m → ((m.1 134 5).toInt ≤ 12) → ((m.1 134 5).toInt = (m0.1 134 5).toInt) → 0 * (m.1 134 5).toInt < (n : Int) → AW ad E0 μX3_openRound d (fun r m' => WT m' ∧ Fx (RS [7]) m0 m' ∧ r = none ∧ ((m'.1 134 5).toInt = (m0.1 134 5).toInt + 1) ∧ ((m'.1 134 7).toInt = 0)) 22 [(0, .ref (ad 134))] [] m) := by
  intro n
  induction n with
  | zero =>
    intros
    exfalso
    omega
  | succ n ih =>
    intro m  w f j1 j2 hn
    refine g_X3_openRound_22 Pl_134 ?_
    have tl1 : (1 : Int32).toInt = 1 := rfl
    have tl0 : (0 : Int32).toInt = 0 := rfl
    have r2 := w.at (a := 134) (k := 5) rfl
    have t3 := ti_add (x := (m.1 134 5)) (y := (1 : Int32)) (by omega)
    have w1 : WT (uI m 134 5 ((m.1 134 5) + (1 : Int32))) := w.t rfl (by show (0 : Int) ≤ (((m.1 134 5) + (1 : Int32))).toInt; first | omega | decide) (by show (((m.1 134 5) + (1 : Int32))).toInt ≤ 13; first | omega | decide)
    have f1 : Fx (RS [7]) m0 (uI m 134 5 ((m.1 134 5) + (1 : Int32))) := f.i rfl
    have w4 : WT (uI (uI m 134 5 ((m.1 134 5) + (1 : Int32))) 134 8 (0 : Int32)) := w1.n rfl
    have f4 : Fx (RS [7]) m0 (uI (uI m 134 5 ((m.1 134 5) + (1 : Int32))) 134 8 (0 : Int32)) := f1.i rfl
    have w5 : WT (uI (uI (uI m 134 5 ((m.1 134 5) + (1 : Int32))) 134 8 (0 : Int32)) 134 7 (0 : Int32)) := w4.n rfl
    have f5 : Fx (RS [7]) m0 (uI (uI (uI m 134 5 ((m.1 134 5) + (1 : Int32))) 134 8 (0 : Int32)) 134 7 (0 : Int32)) := f4.i rfl
    exact ⟨w5, f5, rfl, (by show (((m.1 134 5) + (1 : Int32))).toInt = (m0.1 134 5).toInt + 1; omega), (by show ((0 : Int32)).toInt = 0; omega)⟩
set_option maxHeartbeats 4000000 in
theorem s_X3_openRound_134 {ad : Nat → Nat} {d : Nat} {m : Wm} (w : WT m) (i1 : (m.1 134 5).toInt ≤ 12) : Ct ad μX3_openRound d [.ref (ad 134)] m (fun r m' => WT m' ∧ Fx (RS [7]) m m' ∧ r = none ∧ ((m'.1 134 5).toInt = (m.1 134 5).toInt + 1) ∧ ((m'.1 134 7).toInt = 0)) := by
  have f : Fx (RS [7]) m m := Fx.rf
  refine v_X3_openRound Pl_134 ?_
  have tl12 : (12 : Int32).toInt = 12 := rfl
  refine ⟨?_, ?_⟩
  · intro c1
    have r2 := w.at (a := 134) (k := 5) rfl
    have k3 := z_le c1
    exact (l_X3_openRound_134 (m0 := m) 1000000) _ w f (by show ((m.1 134 5)).toInt ≤ 12; omega) (by show ((m.1 134 5)).toInt = (m0.1 134 5).toInt; omega) (by show 0 * ((m.1 134 5)).toInt < _; omega)
  · intro c4
    have r5 := w.at (a := 134) (k := 5) rfl
    have k6 := z_nle c4
    refine ⟨?_, ?_⟩
    · exact vpi (by omega) (by omega)
    · have r8 := w.at (a := 134) (k := 6) rfl
      have w7 : WT (uI m (134 + 4) ((m.1 134 5).toNatClampNeg) (m.1 134 6)) := w.t rfl (by show (0 : Int) ≤ ((m.1 134 6)).toInt; first | omega | decide) (by show ((m.1 134 6)).toInt ≤ 48; first | omega | decide)
      have f7 : Fx (RS [7]) m (uI m (134 + 4) ((m.1 134 5).toNatClampNeg) (m.1 134 6)) := f.i rfl
      exact (l_X3_openRound_134 (m0 := m) 1000000) _ w7 f7 (by show ((m.1 134 5)).toInt ≤ 12; omega) (by show ((m.1 134 5)).toInt = (m0.1 134 5).toInt; omega) (by show 0 * ((m.1 134 5)).toInt < _; omega)
set_option maxHeartbeats 4000000 in
theorem l_X3_openRound_140 {ad : Nat → Nat} {d : Nat} {m0 : Wm}  : ∀ n : Nat, (∀ (m : Wm), WT m → Fx (RS [7]) m0 m → ((m.1 140 5).toInt ≤ 12) → ((m.1 140 5).toInt = (m0.1 140 5).toInt) → 0 * (m.1 140 5).toInt < (n : Int) → AW ad E0 μX3_openRound d (fun r m' => WT m' ∧ Fx (RS [7]) m0 m' ∧ r = none ∧ ((m'.1 140 5).toInt = (m0.1 140 5).toInt + 1) ∧ ((m'.1 140 7).toInt = 0)) 22 [(0, .ref (ad 140))] [] m) := by
  intro n
  induction n with
  | zero =>
    intros
    exfalso
    omega
  | succ n ih =>
    intro m  w f j1 j2 hn
    refine g_X3_openRound_22 Pl_140 ?_
    have tl1 : (1 : Int32).toInt = 1 := rfl
    have tl0 : (0 : Int32).toInt = 0 := rfl
    have r2 := w.at (a := 140) (k := 5) rfl
    have t3 := ti_add (x := (m.1 140 5)) (y := (1 : Int32)) (by omega)
    have w1 : WT (uI m 140 5 ((m.1 140 5) + (1 : Int32))) := w.t rfl (by show (0 : Int) ≤ (((m.1 140 5) + (1 : Int32))).toInt; first | omega | decide) (by show (((m.1 140 5) + (1 : Int32))).toInt ≤ 13; first | omega | decide)
    have f1 : Fx (RS [7]) m0 (uI m 140 5 ((m.1 140 5) + (1 : Int32))) := f.i rfl
    have w4 : WT (uI (uI m 140 5 ((m.1 140 5) + (1 : Int32))) 140 8 (0 : Int32)) := w1.n rfl
    have f4 : Fx (RS [7]) m0 (uI (uI m 140 5 ((m.1 140 5) + (1 : Int32))) 140 8 (0 : Int32)) := f1.i rfl
    have w5 : WT (uI (uI (uI m 140 5 ((m.1 140 5) + (1 : Int32))) 140 8 (0 : Int32)) 140 7 (0 : Int32)) := w4.n rfl
    have f5 : Fx (RS [7]) m0 (uI (uI (uI m 140 5 ((m.1 140 5) + (1 : Int32))) 140 8 (0 : Int32)) 140 7 (0 : Int32)) := f4.i rfl
    exact ⟨w5, f5, rfl, (by show (((m.1 140 5) + (1 : Int32))).toInt = (m0.1 140 5).toInt + 1; omega), (by show ((0 : Int32)).toInt = 0; omega)⟩
set_option maxHeartbeats 4000000 in
theorem s_X3_openRound_140 {ad : Nat → Nat} {d : Nat} {m : Wm} (w : WT m) (i1 : (m.1 140 5).toInt ≤ 12) : Ct ad μX3_openRound d [.ref (ad 140)] m (fun r m' => WT m' ∧ Fx (RS [7]) m m' ∧ r = none ∧ ((m'.1 140 5).toInt = (m.1 140 5).toInt + 1) ∧ ((m'.1 140 7).toInt = 0)) := by
  have f : Fx (RS [7]) m m := Fx.rf
  refine v_X3_openRound Pl_140 ?_
  have tl12 : (12 : Int32).toInt = 12 := rfl
  refine ⟨?_, ?_⟩
  · intro c1
    have r2 := w.at (a := 140) (k := 5) rfl
    have k3 := z_le c1
    exact (l_X3_openRound_140 (m0 := m) 1000000) _ w f (by show ((m.1 140 5)).toInt ≤ 12; omega) (by show ((m.1 140 5)).toInt = (m0.1 140 5).toInt; omega) (by show 0 * ((m.1 140 5)).toInt < _; omega)
  · intro c4
    have r5 := w.at (a := 140) (k := 5) rfl
    have k6 := z_nle c4
    refine ⟨?_, ?_⟩
    · exact vpi (by omega) (by omega)
    · have r8 := w.at (a := 140) (k := 6) rfl
      have w7 : WT (uI m (140 + 4) ((m.1 140 5).toNatClampNeg) (m.1 140 6)) := w.t rfl (by show (0 : Int) ≤ ((m.1 140 6)).toInt; first | omega | decide) (by show ((m.1 140 6)).toInt ≤ 48; first | omega | decide)
      have f7 : Fx (RS [7]) m (uI m (140 + 4) ((m.1 140 5).toNatClampNeg) (m.1 140 6)) := f.i rfl
      exact (l_X3_openRound_140 (m0 := m) 1000000) _ w7 f7 (by show ((m.1 140 5)).toInt ≤ 12; omega) (by show ((m.1 140 5)).toInt = (m0.1 140 5).toInt; omega) (by show 0 * ((m.1 140 5)).toInt < _; omega)
theorem s_X3_openRound {ad : Nat → Nat} {d : Nat} {m : Wm} {b0 : Nat} (w : WT m) (hb0 : b0 = 134 ∨ b0 = 140) (i1 : (m.1 b0 5).toInt ≤ 12) : Ct ad μX3_openRound d [.ref (ad b0)] m (fun r m' => WT m' ∧ Fx (RS [7]) m m' ∧ r = none ∧ ((m'.1 b0 5).toInt = (m.1 b0 5).toInt + 1) ∧ ((m'.1 b0 7).toInt = 0)) := by
  rcases hb0 with rfl | rfl
  · exact s_X3_openRound_134 w i1
  · exact s_X3_openRound_140 w i1
set_option maxHeartbeats 4000000 in
theorem s_X3_addGame_134 {ad : Nat → Nat} {d : Nat} {m : Wm} {x1 x2 x3 : Int32} (w : WT m) (i1 : (0 : Int) ≤ x1.toInt) (i2 : x1.toInt ≤ (7 : Int)) (i3 : (0 : Int) ≤ x2.toInt) (i4 : x2.toInt ≤ (7 : Int)) : Ct ad μX3_addGame d [.ref (ad 134), .int x1, .int x2, .int x3] m (fun r m' => WT m' ∧ Fx (RS [7]) m m' ∧ r = none ∧ ((m'.1 134 5).toInt = (m.1 134 5).toInt)) := by
  have f : Fx (RS [7]) m m := Fx.rf
  refine v_X3_addGame Pl_134 ?_
  have tl48 : (48 : Int32).toInt = 48 := rfl
  have tl1 : (1 : Int32).toInt = 1 := rfl
  refine ⟨?_, ?_⟩
  · intro c1
    have r2 := w.at (a := 134) (k := 6) rfl
    have k3 := z_le c1
    have r4 := w.at (a := 134) (k := 5) rfl
    exact ⟨w, f, rfl, (by show ((m.1 134 5)).toInt = (m.1 134 5).toInt; omega)⟩
  · intro c5
    have r6 := w.at (a := 134) (k := 6) rfl
    have k7 := z_nle c5
    refine ⟨?_, ?_⟩
    · exact vpi (by omega) (by omega)
    · refine ⟨?_, ?_⟩
      · show vp_in (m.1 134 6) 48
        exact vpi (by omega) (by omega)
      · refine ⟨?_, ?_⟩
        · show vp_in (m.1 134 6) 48
          exact vpi (by omega) (by omega)
        · have w8 : WT (uI m (134 + 1) ((m.1 134 6).toNatClampNeg) x1) := w.t rfl (by show (0 : Int) ≤ (x1).toInt; first | omega | decide) (by show (x1).toInt ≤ 7; first | omega | decide)
          have f8 : Fx (RS [7]) m (uI m (134 + 1) ((m.1 134 6).toNatClampNeg) x1) := f.i rfl
          have w9 : WT (uI (uI m (134 + 1) ((m.1 134 6).toNatClampNeg) x1) (134 + 2) (((uI m (134 + 1) ((m.1 134 6).toNatClampNeg) x1).1 134 6).toNatClampNeg) x2) := w8.t rfl (by show (0 : Int) ≤ (x2).toInt; first | omega | decide) (by show (x2).toInt ≤ 7; first | omega | decide)
          have f9 : Fx (RS [7]) m (uI (uI m (134 + 1) ((m.1 134 6).toNatClampNeg) x1) (134 + 2) (((uI m (134 + 1) ((m.1 134 6).toNatClampNeg) x1).1 134 6).toNatClampNeg) x2) := f8.i rfl
          have w10 : WT (uI (uI (uI m (134 + 1) ((m.1 134 6).toNatClampNeg) x1) (134 + 2) (((uI m (134 + 1) ((m.1 134 6).toNatClampNeg) x1).1 134 6).toNatClampNeg) x2) (134 + 3) (((uI (uI m (134 + 1) ((m.1 134 6).toNatClampNeg) x1) (134 + 2) (((uI m (134 + 1) ((m.1 134 6).toNatClampNeg) x1).1 134 6).toNatClampNeg) x2).1 134 6).toNatClampNeg) x3) := w9.n rfl
          have f10 : Fx (RS [7]) m (uI (uI (uI m (134 + 1) ((m.1 134 6).toNatClampNeg) x1) (134 + 2) (((uI m (134 + 1) ((m.1 134 6).toNatClampNeg) x1).1 134 6).toNatClampNeg) x2) (134 + 3) (((uI (uI m (134 + 1) ((m.1 134 6).toNatClampNeg) x1) (134 + 2) (((uI m (134 + 1) ((m.1 134 6).toNatClampNeg) x1).1 134 6).toNatClampNeg) x2).1 134 6).toNatClampNeg) x3) := f9.i rfl
          have t12 := ti_add (x := (m.1 134 6)) (y := (1 : Int32)) (by omega)
          have w11 : WT (uI (uI (uI (uI m (134 + 1) ((m.1 134 6).toNatClampNeg) x1) (134 + 2) (((uI m (134 + 1) ((m.1 134 6).toNatClampNeg) x1).1 134 6).toNatClampNeg) x2) (134 + 3) (((uI (uI m (134 + 1) ((m.1 134 6).toNatClampNeg) x1) (134 + 2) (((uI m (134 + 1) ((m.1 134 6).toNatClampNeg) x1).1 134 6).toNatClampNeg) x2).1 134 6).toNatClampNeg) x3) 134 6 (((uI (uI (uI m (134 + 1) ((m.1 134 6).toNatClampNeg) x1) (134 + 2) (((uI m (134 + 1) ((m.1 134 6).toNatClampNeg) x1).1 134 6).toNatClampNeg) x2) (134 + 3) (((uI (uI m (134 + 1) ((m.1 134 6).toNatClampNeg) x1) (134 + 2) (((uI m (134 + 1) ((m.1 134 6).toNatClampNeg) x1).1 134 6).toNatClampNeg) x2).1 134 6).toNatClampNeg) x3).1 134 6) + (1 : Int32))) := w10.t rfl (by show (0 : Int) ≤ (((m.1 134 6) + (1 : Int32))).toInt; first | omega | decide) (by show (((m.1 134 6) + (1 : Int32))).toInt ≤ 48; first | omega | decide)
          have f11 : Fx (RS [7]) m (uI (uI (uI (uI m (134 + 1) ((m.1 134 6).toNatClampNeg) x1) (134 + 2) (((uI m (134 + 1) ((m.1 134 6).toNatClampNeg) x1).1 134 6).toNatClampNeg) x2) (134 + 3) (((uI (uI m (134 + 1) ((m.1 134 6).toNatClampNeg) x1) (134 + 2) (((uI m (134 + 1) ((m.1 134 6).toNatClampNeg) x1).1 134 6).toNatClampNeg) x2).1 134 6).toNatClampNeg) x3) 134 6 (((uI (uI (uI m (134 + 1) ((m.1 134 6).toNatClampNeg) x1) (134 + 2) (((uI m (134 + 1) ((m.1 134 6).toNatClampNeg) x1).1 134 6).toNatClampNeg) x2) (134 + 3) (((uI (uI m (134 + 1) ((m.1 134 6).toNatClampNeg) x1) (134 + 2) (((uI m (134 + 1) ((m.1 134 6).toNatClampNeg) x1).1 134 6).toNatClampNeg) x2).1 134 6).toNatClampNeg) x3).1 134 6) + (1 : Int32))) := f10.i rfl
          have r13 := w.at (a := 134) (k := 5) rfl
          exact ⟨w11, f11, rfl, (by show ((m.1 134 5)).toInt = (m.1 134 5).toInt; omega)⟩
set_option maxHeartbeats 4000000 in
theorem s_X3_addGame_140 {ad : Nat → Nat} {d : Nat} {m : Wm} {x1 x2 x3 : Int32} (w : WT m) (i1 : (0 : Int) ≤ x1.toInt) (i2 : x1.toInt ≤ (7 : Int)) (i3 : (0 : Int) ≤ x2.toInt) (i4 : x2.toInt ≤ (7 : Int)) : Ct ad μX3_addGame d [.ref (ad 140), .int x1, .int x2, .int x3] m (fun r m' => WT m' ∧ Fx (RS [7]) m m' ∧ r = none ∧ ((m'.1 140 5).toInt = (m.1 140 5).toInt)) := by
  have f : Fx (RS [7]) m m := Fx.rf
  refine v_X3_addGame Pl_140 ?_
  have tl48 : (48 : Int32).toInt = 48 := rfl
  have tl1 : (1 : Int32).toInt = 1 := rfl
  refine ⟨?_, ?_⟩
  · intro c1
    have r2 := w.at (a := 140) (k := 6) rfl
    have k3 := z_le c1
    have r4 := w.at (a := 140) (k := 5) rfl
    exact ⟨w, f, rfl, (by show ((m.1 140 5)).toInt = (m.1 140 5).toInt; omega)⟩
  · intro c5
    have r6 := w.at (a := 140) (k := 6) rfl
    have k7 := z_nle c5
    refine ⟨?_, ?_⟩
    · exact vpi (by omega) (by omega)
    · refine ⟨?_, ?_⟩
      · show vp_in (m.1 140 6) 48
        exact vpi (by omega) (by omega)
      · refine ⟨?_, ?_⟩
        · show vp_in (m.1 140 6) 48
          exact vpi (by omega) (by omega)
        · have w8 : WT (uI m (140 + 1) ((m.1 140 6).toNatClampNeg) x1) := w.t rfl (by show (0 : Int) ≤ (x1).toInt; first | omega | decide) (by show (x1).toInt ≤ 7; first | omega | decide)
          have f8 : Fx (RS [7]) m (uI m (140 + 1) ((m.1 140 6).toNatClampNeg) x1) := f.i rfl
          have w9 : WT (uI (uI m (140 + 1) ((m.1 140 6).toNatClampNeg) x1) (140 + 2) (((uI m (140 + 1) ((m.1 140 6).toNatClampNeg) x1).1 140 6).toNatClampNeg) x2) := w8.t rfl (by show (0 : Int) ≤ (x2).toInt; first | omega | decide) (by show (x2).toInt ≤ 7; first | omega | decide)
          have f9 : Fx (RS [7]) m (uI (uI m (140 + 1) ((m.1 140 6).toNatClampNeg) x1) (140 + 2) (((uI m (140 + 1) ((m.1 140 6).toNatClampNeg) x1).1 140 6).toNatClampNeg) x2) := f8.i rfl
          have w10 : WT (uI (uI (uI m (140 + 1) ((m.1 140 6).toNatClampNeg) x1) (140 + 2) (((uI m (140 + 1) ((m.1 140 6).toNatClampNeg) x1).1 140 6).toNatClampNeg) x2) (140 + 3) (((uI (uI m (140 + 1) ((m.1 140 6).toNatClampNeg) x1) (140 + 2) (((uI m (140 + 1) ((m.1 140 6).toNatClampNeg) x1).1 140 6).toNatClampNeg) x2).1 140 6).toNatClampNeg) x3) := w9.n rfl
          have f10 : Fx (RS [7]) m (uI (uI (uI m (140 + 1) ((m.1 140 6).toNatClampNeg) x1) (140 + 2) (((uI m (140 + 1) ((m.1 140 6).toNatClampNeg) x1).1 140 6).toNatClampNeg) x2) (140 + 3) (((uI (uI m (140 + 1) ((m.1 140 6).toNatClampNeg) x1) (140 + 2) (((uI m (140 + 1) ((m.1 140 6).toNatClampNeg) x1).1 140 6).toNatClampNeg) x2).1 140 6).toNatClampNeg) x3) := f9.i rfl
          have t12 := ti_add (x := (m.1 140 6)) (y := (1 : Int32)) (by omega)
          have w11 : WT (uI (uI (uI (uI m (140 + 1) ((m.1 140 6).toNatClampNeg) x1) (140 + 2) (((uI m (140 + 1) ((m.1 140 6).toNatClampNeg) x1).1 140 6).toNatClampNeg) x2) (140 + 3) (((uI (uI m (140 + 1) ((m.1 140 6).toNatClampNeg) x1) (140 + 2) (((uI m (140 + 1) ((m.1 140 6).toNatClampNeg) x1).1 140 6).toNatClampNeg) x2).1 140 6).toNatClampNeg) x3) 140 6 (((uI (uI (uI m (140 + 1) ((m.1 140 6).toNatClampNeg) x1) (140 + 2) (((uI m (140 + 1) ((m.1 140 6).toNatClampNeg) x1).1 140 6).toNatClampNeg) x2) (140 + 3) (((uI (uI m (140 + 1) ((m.1 140 6).toNatClampNeg) x1) (140 + 2) (((uI m (140 + 1) ((m.1 140 6).toNatClampNeg) x1).1 140 6).toNatClampNeg) x2).1 140 6).toNatClampNeg) x3).1 140 6) + (1 : Int32))) := w10.t rfl (by show (0 : Int) ≤ (((m.1 140 6) + (1 : Int32))).toInt; first | omega | decide) (by show (((m.1 140 6) + (1 : Int32))).toInt ≤ 48; first | omega | decide)
          have f11 : Fx (RS [7]) m (uI (uI (uI (uI m (140 + 1) ((m.1 140 6).toNatClampNeg) x1) (140 + 2) (((uI m (140 + 1) ((m.1 140 6).toNatClampNeg) x1).1 140 6).toNatClampNeg) x2) (140 + 3) (((uI (uI m (140 + 1) ((m.1 140 6).toNatClampNeg) x1) (140 + 2) (((uI m (140 + 1) ((m.1 140 6).toNatClampNeg) x1).1 140 6).toNatClampNeg) x2).1 140 6).toNatClampNeg) x3) 140 6 (((uI (uI (uI m (140 + 1) ((m.1 140 6).toNatClampNeg) x1) (140 + 2) (((uI m (140 + 1) ((m.1 140 6).toNatClampNeg) x1).1 140 6).toNatClampNeg) x2) (140 + 3) (((uI (uI m (140 + 1) ((m.1 140 6).toNatClampNeg) x1) (140 + 2) (((uI m (140 + 1) ((m.1 140 6).toNatClampNeg) x1).1 140 6).toNatClampNeg) x2).1 140 6).toNatClampNeg) x3).1 140 6) + (1 : Int32))) := f10.i rfl
          have r13 := w.at (a := 140) (k := 5) rfl
          exact ⟨w11, f11, rfl, (by show ((m.1 140 5)).toInt = (m.1 140 5).toInt; omega)⟩
theorem s_X3_addGame {ad : Nat → Nat} {d : Nat} {m : Wm} {b0 : Nat} {x1 x2 x3 : Int32} (w : WT m) (hb0 : b0 = 134 ∨ b0 = 140) (i1 : (0 : Int) ≤ x1.toInt) (i2 : x1.toInt ≤ (7 : Int)) (i3 : (0 : Int) ≤ x2.toInt) (i4 : x2.toInt ≤ (7 : Int)) : Ct ad μX3_addGame d [.ref (ad b0), .int x1, .int x2, .int x3] m (fun r m' => WT m' ∧ Fx (RS [7]) m m' ∧ r = none ∧ ((m'.1 b0 5).toInt = (m.1 b0 5).toInt)) := by
  rcases hb0 with rfl | rfl
  · exact s_X3_addGame_134 w i1 i2 i3 i4
  · exact s_X3_addGame_140 w i1 i2 i3 i4
set_option maxHeartbeats 4000000 in
theorem s_X3_takeDash_134 {ad : Nat → Nat} {d : Nat} {m : Wm} {x1 : Int32} (w : WT m) (i1 : (m.1 134 5).toInt ≤ 12) : Ct ad μX3_takeDash d [.ref (ad 134), .int x1] m (fun r m' => WT m' ∧ Fx (RS [7]) m m' ∧ ∃ v : Int32, r = some (.int v) ∧ (0 : Int) ≤ v.toInt ∧ v.toInt ≤ 1 ∧ ((m'.1 134 5).toInt ≤ 12)) := by
  have f : Fx (RS [7]) m m := Fx.rf
  refine v_X3_takeDash Pl_134 ?_
  have tl45 : (45 : Int32).toInt = 45 := rfl
  have tl1 : (1 : Int32).toInt = 1 := rfl
  have tl0 : (0 : Int32).toInt = 0 := rfl
  refine ⟨?_, ?_⟩
  · intro c1
    have k2 := z_eq c1
    have w3 : WT (uI m 134 7 (3 : Int32)) := w.n rfl
    have f3 : Fx (RS [7]) m (uI m 134 7 (3 : Int32)) := f.i rfl
    have r4 := w.at (a := 134) (k := 5) rfl
    exact ⟨w3, f3, _, rfl, (by show (0 : Int) ≤ ((1 : Int32)).toInt; omega), (by show ((1 : Int32)).toInt ≤ 1; omega), (by show ((m.1 134 5)).toInt ≤ 12; omega)⟩
  · intro c5
    have k6 := z_ne c5
    have r7 := w.at (a := 134) (k := 5) rfl
    exact ⟨w, f, _, rfl, (by show (0 : Int) ≤ ((0 : Int32)).toInt; omega), (by show ((0 : Int32)).toInt ≤ 1; omega), (by show ((m.1 134 5)).toInt ≤ 12; omega)⟩
set_option maxHeartbeats 4000000 in
theorem s_X3_takeDash_140 {ad : Nat → Nat} {d : Nat} {m : Wm} {x1 : Int32} (w : WT m) (i1 : (m.1 140 5).toInt ≤ 12) : Ct ad μX3_takeDash d [.ref (ad 140), .int x1] m (fun r m' => WT m' ∧ Fx (RS [7]) m m' ∧ ∃ v : Int32, r = some (.int v) ∧ (0 : Int) ≤ v.toInt ∧ v.toInt ≤ 1 ∧ ((m'.1 140 5).toInt ≤ 12)) := by
  have f : Fx (RS [7]) m m := Fx.rf
  refine v_X3_takeDash Pl_140 ?_
  have tl45 : (45 : Int32).toInt = 45 := rfl
  have tl1 : (1 : Int32).toInt = 1 := rfl
  have tl0 : (0 : Int32).toInt = 0 := rfl
  refine ⟨?_, ?_⟩
  · intro c1
    have k2 := z_eq c1
    have w3 : WT (uI m 140 7 (3 : Int32)) := w.n rfl
    have f3 : Fx (RS [7]) m (uI m 140 7 (3 : Int32)) := f.i rfl
    have r4 := w.at (a := 140) (k := 5) rfl
    exact ⟨w3, f3, _, rfl, (by show (0 : Int) ≤ ((1 : Int32)).toInt; omega), (by show ((1 : Int32)).toInt ≤ 1; omega), (by show ((m.1 140 5)).toInt ≤ 12; omega)⟩
  · intro c5
    have k6 := z_ne c5
    have r7 := w.at (a := 140) (k := 5) rfl
    exact ⟨w, f, _, rfl, (by show (0 : Int) ≤ ((0 : Int32)).toInt; omega), (by show ((0 : Int32)).toInt ≤ 1; omega), (by show ((m.1 140 5)).toInt ≤ 12; omega)⟩
theorem s_X3_takeDash {ad : Nat → Nat} {d : Nat} {m : Wm} {b0 : Nat} {x1 : Int32} (w : WT m) (hb0 : b0 = 134 ∨ b0 = 140) (i1 : (m.1 b0 5).toInt ≤ 12) : Ct ad μX3_takeDash d [.ref (ad b0), .int x1] m (fun r m' => WT m' ∧ Fx (RS [7]) m m' ∧ ∃ v : Int32, r = some (.int v) ∧ (0 : Int) ≤ v.toInt ∧ v.toInt ≤ 1 ∧ ((m'.1 b0 5).toInt ≤ 12)) := by
  rcases hb0 with rfl | rfl
  · exact s_X3_takeDash_134 w i1
  · exact s_X3_takeDash_140 w i1
set_option maxHeartbeats 4000000 in
theorem s_X3_takeThrow_134 {ad : Nat → Nat} {d : Nat} {m : Wm} {x1 x2 x3 : Int32} (w : WT m) (i1 : (m.1 134 5).toInt ≤ 12) : Ct ad μX3_takeThrow d [.ref (ad 134), .int x1, .int x2, .int x3] m (fun r m' => WT m' ∧ Fx (RS [7]) m m' ∧ ∃ v : Int32, r = some (.int v) ∧ (0 : Int) ≤ v.toInt ∧ v.toInt ≤ 1 ∧ ((m'.1 134 5).toInt ≤ 12)) := by
  have f : Fx (RS [7]) m m := Fx.rf
  refine v_X3_takeThrow Pl_134 ?_
  have tl33 : (33 : Int32).toInt = 33 := rfl
  have tl1 : (1 : Int32).toInt = 1 := rfl
  have tl0 : (0 : Int32).toInt = 0 := rfl
  refine ⟨?_, ?_⟩
  · intro c1
    have k2 := z_eq c1
    refine ⟨?_, ?_⟩
    · intro c3
      have r4 := w.at (a := 134) (k := 6) rfl
      have k5 := z_le c3
      have w6 : WT (uI m 134 7 x3) := w.n rfl
      have f6 : Fx (RS [7]) m (uI m 134 7 x3) := f.i rfl
      have r7 := w.at (a := 134) (k := 5) rfl
      exact ⟨w6, f6, _, rfl, (by show (0 : Int) ≤ ((1 : Int32)).toInt; omega), (by show ((1 : Int32)).toInt ≤ 1; omega), (by show ((m.1 134 5)).toInt ≤ 12; omega)⟩
    · intro c8
      have r9 := w.at (a := 134) (k := 6) rfl
      have k10 := z_nle c8
      refine ⟨?_, ?_⟩
      · have t11 := ti_sub (x := (m.1 134 6)) (y := (1 : Int32)) (by omega)
        exact vpi (by omega) (by omega)
      · refine ⟨?_, ?_⟩
        · have t12 := ti_sub (x := (m.1 134 6)) (y := (1 : Int32)) (by omega)
          exact vpi (by omega) (by omega)
        · have w13 : WT (uI m (134 + 3) (((m.1 134 6) - (1 : Int32)).toNatClampNeg) ((m.1 (134 + 3) (((m.1 134 6) - (1 : Int32)).toNatClampNeg)) ||| x2)) := w.n rfl
          have f13 : Fx (RS [7]) m (uI m (134 + 3) (((m.1 134 6) - (1 : Int32)).toNatClampNeg) ((m.1 (134 + 3) (((m.1 134 6) - (1 : Int32)).toNatClampNeg)) ||| x2)) := f.i rfl
          have w14 : WT (uI (uI m (134 + 3) (((m.1 134 6) - (1 : Int32)).toNatClampNeg) ((m.1 (134 + 3) (((m.1 134 6) - (1 : Int32)).toNatClampNeg)) ||| x2)) 134 7 x3) := w13.n rfl
          have f14 : Fx (RS [7]) m (uI (uI m (134 + 3) (((m.1 134 6) - (1 : Int32)).toNatClampNeg) ((m.1 (134 + 3) (((m.1 134 6) - (1 : Int32)).toNatClampNeg)) ||| x2)) 134 7 x3) := f13.i rfl
          have r15 := w.at (a := 134) (k := 5) rfl
          exact ⟨w14, f14, _, rfl, (by show (0 : Int) ≤ ((1 : Int32)).toInt; omega), (by show ((1 : Int32)).toInt ≤ 1; omega), (by show ((m.1 134 5)).toInt ≤ 12; omega)⟩
  · intro c16
    have k17 := z_ne c16
    have r18 := w.at (a := 134) (k := 5) rfl
    exact ⟨w, f, _, rfl, (by show (0 : Int) ≤ ((0 : Int32)).toInt; omega), (by show ((0 : Int32)).toInt ≤ 1; omega), (by show ((m.1 134 5)).toInt ≤ 12; omega)⟩
set_option maxHeartbeats 4000000 in
theorem s_X3_takeThrow_140 {ad : Nat → Nat} {d : Nat} {m : Wm} {x1 x2 x3 : Int32} (w : WT m) (i1 : (m.1 140 5).toInt ≤ 12) : Ct ad μX3_takeThrow d [.ref (ad 140), .int x1, .int x2, .int x3] m (fun r m' => WT m' ∧ Fx (RS [7]) m m' ∧ ∃ v : Int32, r = some (.int v) ∧ (0 : Int) ≤ v.toInt ∧ v.toInt ≤ 1 ∧ ((m'.1 140 5).toInt ≤ 12)) := by
  have f : Fx (RS [7]) m m := Fx.rf
  refine v_X3_takeThrow Pl_140 ?_
  have tl33 : (33 : Int32).toInt = 33 := rfl
  have tl1 : (1 : Int32).toInt = 1 := rfl
  have tl0 : (0 : Int32).toInt = 0 := rfl
  refine ⟨?_, ?_⟩
  · intro c1
    have k2 := z_eq c1
    refine ⟨?_, ?_⟩
    · intro c3
      have r4 := w.at (a := 140) (k := 6) rfl
      have k5 := z_le c3
      have w6 : WT (uI m 140 7 x3) := w.n rfl
      have f6 : Fx (RS [7]) m (uI m 140 7 x3) := f.i rfl
      have r7 := w.at (a := 140) (k := 5) rfl
      exact ⟨w6, f6, _, rfl, (by show (0 : Int) ≤ ((1 : Int32)).toInt; omega), (by show ((1 : Int32)).toInt ≤ 1; omega), (by show ((m.1 140 5)).toInt ≤ 12; omega)⟩
    · intro c8
      have r9 := w.at (a := 140) (k := 6) rfl
      have k10 := z_nle c8
      refine ⟨?_, ?_⟩
      · have t11 := ti_sub (x := (m.1 140 6)) (y := (1 : Int32)) (by omega)
        exact vpi (by omega) (by omega)
      · refine ⟨?_, ?_⟩
        · have t12 := ti_sub (x := (m.1 140 6)) (y := (1 : Int32)) (by omega)
          exact vpi (by omega) (by omega)
        · have w13 : WT (uI m (140 + 3) (((m.1 140 6) - (1 : Int32)).toNatClampNeg) ((m.1 (140 + 3) (((m.1 140 6) - (1 : Int32)).toNatClampNeg)) ||| x2)) := w.n rfl
          have f13 : Fx (RS [7]) m (uI m (140 + 3) (((m.1 140 6) - (1 : Int32)).toNatClampNeg) ((m.1 (140 + 3) (((m.1 140 6) - (1 : Int32)).toNatClampNeg)) ||| x2)) := f.i rfl
          have w14 : WT (uI (uI m (140 + 3) (((m.1 140 6) - (1 : Int32)).toNatClampNeg) ((m.1 (140 + 3) (((m.1 140 6) - (1 : Int32)).toNatClampNeg)) ||| x2)) 140 7 x3) := w13.n rfl
          have f14 : Fx (RS [7]) m (uI (uI m (140 + 3) (((m.1 140 6) - (1 : Int32)).toNatClampNeg) ((m.1 (140 + 3) (((m.1 140 6) - (1 : Int32)).toNatClampNeg)) ||| x2)) 140 7 x3) := f13.i rfl
          have r15 := w.at (a := 140) (k := 5) rfl
          exact ⟨w14, f14, _, rfl, (by show (0 : Int) ≤ ((1 : Int32)).toInt; omega), (by show ((1 : Int32)).toInt ≤ 1; omega), (by show ((m.1 140 5)).toInt ≤ 12; omega)⟩
  · intro c16
    have k17 := z_ne c16
    have r18 := w.at (a := 140) (k := 5) rfl
    exact ⟨w, f, _, rfl, (by show (0 : Int) ≤ ((0 : Int32)).toInt; omega), (by show ((0 : Int32)).toInt ≤ 1; omega), (by show ((m.1 140 5)).toInt ≤ 12; omega)⟩
theorem s_X3_takeThrow {ad : Nat → Nat} {d : Nat} {m : Wm} {b0 : Nat} {x1 x2 x3 : Int32} (w : WT m) (hb0 : b0 = 134 ∨ b0 = 140) (i1 : (m.1 b0 5).toInt ≤ 12) : Ct ad μX3_takeThrow d [.ref (ad b0), .int x1, .int x2, .int x3] m (fun r m' => WT m' ∧ Fx (RS [7]) m m' ∧ ∃ v : Int32, r = some (.int v) ∧ (0 : Int) ≤ v.toInt ∧ v.toInt ≤ 1 ∧ ((m'.1 b0 5).toInt ≤ 12)) := by
  rcases hb0 with rfl | rfl
  · exact s_X3_takeThrow_134 w i1
  · exact s_X3_takeThrow_140 w i1
set_option maxHeartbeats 4000000 in
theorem s_X3_takeBreak_134 {ad : Nat → Nat} {d : Nat} {m : Wm} {x1 : Int32} (w : WT m) (i1 : (m.1 134 5).toInt ≤ 12) : Ct ad μX3_takeBreak (d + 1) [.ref (ad 134), .int x1] m (fun r m' => WT m' ∧ Fx (RS [7]) m m' ∧ ∃ v : Int32, r = some (.int v) ∧ (0 : Int) ≤ v.toInt ∧ v.toInt ≤ 1 ∧ ((m'.1 134 5).toInt ≤ 12 ∨ (m'.1 134 7).toInt = 0)) := by
  have f : Fx (RS [7]) m m := Fx.rf
  refine v_X3_takeBreak Pl_134 ?_
  have tl59 : (59 : Int32).toInt = 59 := rfl
  have tl44 : (44 : Int32).toInt = 44 := rfl
  have tl1 : (1 : Int32).toInt = 1 := rfl
  have tl0 : (0 : Int32).toInt = 0 := rfl
  refine ⟨?_, ?_⟩
  · intro c1
    have k2 := z_ne c1
    refine ⟨?_, ?_⟩
    · intro c3
      have k4 := z_ne c3
      have w5 : WT (uI m 134 7 (0 : Int32)) := w.n rfl
      have f5 : Fx (RS [7]) m (uI m 134 7 (0 : Int32)) := f.i rfl
      have r6 := w.at (a := 134) (k := 5) rfl
      exact ⟨w5, f5, _, rfl, (by show (0 : Int) ≤ ((0 : Int32)).toInt; omega), (by show ((0 : Int32)).toInt ≤ 1; omega), (by show ((m.1 134 5)).toInt ≤ 12 ∨ ((0 : Int32)).toInt = 0; omega)⟩
    · intro c7
      have k8 := z_eq c7
      have w9 : WT (uI m 134 7 (0 : Int32)) := w.n rfl
      have f9 : Fx (RS [7]) m (uI m 134 7 (0 : Int32)) := f.i rfl
      have r10 := w.at (a := 134) (k := 5) rfl
      exact ⟨w9, f9, _, rfl, (by show (0 : Int) ≤ ((1 : Int32)).toInt; omega), (by show ((1 : Int32)).toInt ≤ 1; omega), (by show ((m.1 134 5)).toInt ≤ 12 ∨ ((0 : Int32)).toInt = 0; omega)⟩
  · intro c11
    have k12 := z_eq c11
    have r13 := w.at (a := 134) (k := 5) rfl
    refine (s_X3_openRound w (Or.inl rfl) (by show ((m.1 134 5)).toInt ≤ 12; omega)).to ?_
    rintro _ m1 ⟨w_m1, g14, rfl, p15, p16⟩
    have f_m1 : Fx (RS [7]) m m1 := f.tr g14 (RS_sub rfl)
    have p17 : (m1.1 134 5).toInt = ((m.1 134 5)).toInt + 1 := p15
    have p18 : (m1.1 134 7).toInt = 0 := p16
    refine ⟨rfl, ?_⟩
    have r19 := w_m1.at (a := 134) (k := 5) rfl
    exact ⟨w_m1, f_m1, _, rfl, (by show (0 : Int) ≤ ((1 : Int32)).toInt; omega), (by show ((1 : Int32)).toInt ≤ 1; omega), (by show ((m1.1 134 5)).toInt ≤ 12 ∨ ((m1.1 134 7)).toInt = 0; omega)⟩
set_option maxHeartbeats 4000000 in
theorem s_X3_takeBreak_140 {ad : Nat → Nat} {d : Nat} {m : Wm} {x1 : Int32} (w : WT m) (i1 : (m.1 140 5).toInt ≤ 12) : Ct ad μX3_takeBreak (d + 1) [.ref (ad 140), .int x1] m (fun r m' => WT m' ∧ Fx (RS [7]) m m' ∧ ∃ v : Int32, r = some (.int v) ∧ (0 : Int) ≤ v.toInt ∧ v.toInt ≤ 1 ∧ ((m'.1 140 5).toInt ≤ 12 ∨ (m'.1 140 7).toInt = 0)) := by
  have f : Fx (RS [7]) m m := Fx.rf
  refine v_X3_takeBreak Pl_140 ?_
  have tl59 : (59 : Int32).toInt = 59 := rfl
  have tl44 : (44 : Int32).toInt = 44 := rfl
  have tl1 : (1 : Int32).toInt = 1 := rfl
  have tl0 : (0 : Int32).toInt = 0 := rfl
  refine ⟨?_, ?_⟩
  · intro c1
    have k2 := z_ne c1
    refine ⟨?_, ?_⟩
    · intro c3
      have k4 := z_ne c3
      have w5 : WT (uI m 140 7 (0 : Int32)) := w.n rfl
      have f5 : Fx (RS [7]) m (uI m 140 7 (0 : Int32)) := f.i rfl
      have r6 := w.at (a := 140) (k := 5) rfl
      exact ⟨w5, f5, _, rfl, (by show (0 : Int) ≤ ((0 : Int32)).toInt; omega), (by show ((0 : Int32)).toInt ≤ 1; omega), (by show ((m.1 140 5)).toInt ≤ 12 ∨ ((0 : Int32)).toInt = 0; omega)⟩
    · intro c7
      have k8 := z_eq c7
      have w9 : WT (uI m 140 7 (0 : Int32)) := w.n rfl
      have f9 : Fx (RS [7]) m (uI m 140 7 (0 : Int32)) := f.i rfl
      have r10 := w.at (a := 140) (k := 5) rfl
      exact ⟨w9, f9, _, rfl, (by show (0 : Int) ≤ ((1 : Int32)).toInt; omega), (by show ((1 : Int32)).toInt ≤ 1; omega), (by show ((m.1 140 5)).toInt ≤ 12 ∨ ((0 : Int32)).toInt = 0; omega)⟩
  · intro c11
    have k12 := z_eq c11
    have r13 := w.at (a := 140) (k := 5) rfl
    refine (s_X3_openRound w (Or.inr rfl) (by show ((m.1 140 5)).toInt ≤ 12; omega)).to ?_
    rintro _ m1 ⟨w_m1, g14, rfl, p15, p16⟩
    have f_m1 : Fx (RS [7]) m m1 := f.tr g14 (RS_sub rfl)
    have p17 : (m1.1 140 5).toInt = ((m.1 140 5)).toInt + 1 := p15
    have p18 : (m1.1 140 7).toInt = 0 := p16
    refine ⟨rfl, ?_⟩
    have r19 := w_m1.at (a := 140) (k := 5) rfl
    exact ⟨w_m1, f_m1, _, rfl, (by show (0 : Int) ≤ ((1 : Int32)).toInt; omega), (by show ((1 : Int32)).toInt ≤ 1; omega), (by show ((m1.1 140 5)).toInt ≤ 12 ∨ ((m1.1 140 7)).toInt = 0; omega)⟩
theorem s_X3_takeBreak {ad : Nat → Nat} {d : Nat} {m : Wm} {b0 : Nat} {x1 : Int32} (w : WT m) (hb0 : b0 = 134 ∨ b0 = 140) (i1 : (m.1 b0 5).toInt ≤ 12) : Ct ad μX3_takeBreak (d + 1) [.ref (ad b0), .int x1] m (fun r m' => WT m' ∧ Fx (RS [7]) m m' ∧ ∃ v : Int32, r = some (.int v) ∧ (0 : Int) ≤ v.toInt ∧ v.toInt ≤ 1 ∧ ((m'.1 b0 5).toInt ≤ 12 ∨ (m'.1 b0 7).toInt = 0)) := by
  rcases hb0 with rfl | rfl
  · exact s_X3_takeBreak_134 w i1
  · exact s_X3_takeBreak_140 w i1
set_option maxHeartbeats 4000000 in
theorem s_X3_takeSide_134 {ad : Nat → Nat} {d : Nat} {m : Wm} {x1 x2 : Int32} (w : WT m) (i1 : (0 : Int) ≤ x2.toInt) (i2 : x2.toInt ≤ (8 : Int)) (i3 : (m.1 134 5).toInt ≤ 12) : Ct ad μX3_takeSide (d + 1) [.ref (ad 134), .int x1, .int x2] m (fun r m' => WT m' ∧ Fx (RS [7]) m m' ∧ ∃ v : Int32, r = some (.int v) ∧ (0 : Int) ≤ v.toInt ∧ v.toInt ≤ 1 ∧ ((m'.1 134 5).toInt ≤ 12)) := by
  have f : Fx (RS [7]) m m := Fx.rf
  refine v_X3_takeSide Pl_134 ?_
  have tl1 : (1 : Int32).toInt = 1 := rfl
  have tl0 : (0 : Int32).toInt = 0 := rfl
  refine ⟨?_, ?_⟩
  · intro c1
    have k2 := z_lt c1
    have r3 := w.at (a := 134) (k := 5) rfl
    exact ⟨w, f, _, rfl, (by show (0 : Int) ≤ ((0 : Int32)).toInt; omega), (by show ((0 : Int32)).toInt ≤ 1; omega), (by show ((m.1 134 5)).toInt ≤ 12; omega)⟩
  · intro c4
    have k5 := z_nlt c4
    refine ⟨?_, ?_⟩
    · intro c6
      have k7 := z_le c6
      have r8 := w.at (a := 134) (k := 5) rfl
      exact ⟨w, f, _, rfl, (by show (0 : Int) ≤ ((0 : Int32)).toInt; omega), (by show ((0 : Int32)).toInt ≤ 1; omega), (by show ((m.1 134 5)).toInt ≤ 12; omega)⟩
    · intro c9
      have k10 := z_nle c9
      refine ⟨?_, ?_⟩
      · intro c11
        have t12 := t_and1 ((m.1 134 8) >>> (x1 &&& 31))
        have k13 := z_eq c11
        refine ⟨?_, ?_⟩
        · intro c14
          have c15 : ¬ (m.1 134 7) = (0 : Int32) := c14
          have k16 := z_ne c15
          refine ⟨?_, ?_⟩
          · intro c17
            have r18 := w.at (a := 134) (k := 6) rfl
            have c19 : (m.1 134 6) ≤ (0 : Int32) := c17
            have k20 := z_le c19
            have w21 : WT (uI m 134 8 ((m.1 134 8) ||| ((1 : Int32) <<< (x1 &&& 31)))) := w.n rfl
            have f21 : Fx (RS [7]) m (uI m 134 8 ((m.1 134 8) ||| ((1 : Int32) <<< (x1 &&& 31)))) := f.i rfl
            have w22 : WT (uI (uI m 134 8 ((m.1 134 8) ||| ((1 : Int32) <<< (x1 &&& 31)))) 134 7 (4 : Int32)) := w21.n rfl
            have f22 : Fx (RS [7]) m (uI (uI m 134 8 ((m.1 134 8) ||| ((1 : Int32) <<< (x1 &&& 31)))) 134 7 (4 : Int32)) := f21.i rfl
            have r23 := w.at (a := 134) (k := 5) rfl
            exact ⟨w22, f22, _, rfl, (by show (0 : Int) ≤ ((1 : Int32)).toInt; omega), (by show ((1 : Int32)).toInt ≤ 1; omega), (by show ((m.1 134 5)).toInt ≤ 12; omega)⟩
          · intro c24
            have r25 := w.at (a := 134) (k := 6) rfl
            have c26 : ¬ (m.1 134 6) ≤ (0 : Int32) := c24
            have k27 := z_nle c26
            refine ⟨?_, ?_⟩
            · have t28 := ti_sub (x := (m.1 134 6)) (y := (1 : Int32)) (by omega)
              show vp_in ((m.1 134 6) - (1 : Int32)) 48
              exact vpi (by omega) (by omega)
            · have w29 : WT (uI m 134 8 ((m.1 134 8) ||| ((1 : Int32) <<< (x1 &&& 31)))) := w.n rfl
              have f29 : Fx (RS [7]) m (uI m 134 8 ((m.1 134 8) ||| ((1 : Int32) <<< (x1 &&& 31)))) := f.i rfl
              have w30 : WT (uI (uI m 134 8 ((m.1 134 8) ||| ((1 : Int32) <<< (x1 &&& 31)))) (134 + 2) ((((uI m 134 8 ((m.1 134 8) ||| ((1 : Int32) <<< (x1 &&& 31)))).1 134 6) - (1 : Int32)).toNatClampNeg) x1) := w29.t rfl (by show (0 : Int) ≤ (x1).toInt; first | omega | decide) (by show (x1).toInt ≤ 7; first | omega | decide)
              have f30 : Fx (RS [7]) m (uI (uI m 134 8 ((m.1 134 8) ||| ((1 : Int32) <<< (x1 &&& 31)))) (134 + 2) ((((uI m 134 8 ((m.1 134 8) ||| ((1 : Int32) <<< (x1 &&& 31)))).1 134 6) - (1 : Int32)).toNatClampNeg) x1) := f29.i rfl
              have w31 : WT (uI (uI (uI m 134 8 ((m.1 134 8) ||| ((1 : Int32) <<< (x1 &&& 31)))) (134 + 2) ((((uI m 134 8 ((m.1 134 8) ||| ((1 : Int32) <<< (x1 &&& 31)))).1 134 6) - (1 : Int32)).toNatClampNeg) x1) 134 7 (4 : Int32)) := w30.n rfl
              have f31 : Fx (RS [7]) m (uI (uI (uI m 134 8 ((m.1 134 8) ||| ((1 : Int32) <<< (x1 &&& 31)))) (134 + 2) ((((uI m 134 8 ((m.1 134 8) ||| ((1 : Int32) <<< (x1 &&& 31)))).1 134 6) - (1 : Int32)).toNatClampNeg) x1) 134 7 (4 : Int32)) := f30.i rfl
              have r32 := w.at (a := 134) (k := 5) rfl
              exact ⟨w31, f31, _, rfl, (by show (0 : Int) ≤ ((1 : Int32)).toInt; omega), (by show ((1 : Int32)).toInt ≤ 1; omega), (by show ((m.1 134 5)).toInt ≤ 12; omega)⟩
        · intro c33
          have c34 : (m.1 134 7) = (0 : Int32) := c33
          have k35 := z_eq c34
          have w36 : WT (uI m 134 8 ((m.1 134 8) ||| ((1 : Int32) <<< (x1 &&& 31)))) := w.n rfl
          have f36 : Fx (RS [7]) m (uI m 134 8 ((m.1 134 8) ||| ((1 : Int32) <<< (x1 &&& 31)))) := f.i rfl
          refine (s_X3_addGame w36 (Or.inl rfl) (by show (0 : Int) ≤ (x1).toInt; omega) (by show (x1).toInt ≤ (7 : Int); omega) (by show (0 : Int) ≤ (x1).toInt; omega) (by show (x1).toInt ≤ (7 : Int); omega)).to ?_
          rintro _ m1 ⟨w_m1, g37, rfl, p38⟩
          have f_m1 : Fx (RS [7]) m m1 := f36.tr g37 (RS_sub rfl)
          have p39 : (m1.1 134 5).toInt = ((m.1 134 5)).toInt := p38
          refine ⟨rfl, ?_⟩
          have w40 : WT (uI m1 134 7 (1 : Int32)) := w_m1.n rfl
          have f40 : Fx (RS [7]) m (uI m1 134 7 (1 : Int32)) := f_m1.i rfl
          have r41 := w_m1.at (a := 134) (k := 5) rfl
          exact ⟨w40, f40, _, rfl, (by show (0 : Int) ≤ ((1 : Int32)).toInt; omega), (by show ((1 : Int32)).toInt ≤ 1; omega), (by show ((m1.1 134 5)).toInt ≤ 12; omega)⟩
      · intro c42
        have t43 := t_and1 ((m.1 134 8) >>> (x1 &&& 31))
        have k44 := z_ne c42
        have r45 := w.at (a := 134) (k := 5) rfl
        exact ⟨w, f, _, rfl, (by show (0 : Int) ≤ ((0 : Int32)).toInt; omega), (by show ((0 : Int32)).toInt ≤ 1; omega), (by show ((m.1 134 5)).toInt ≤ 12; omega)⟩
set_option maxHeartbeats 4000000 in
theorem s_X3_takeSide_140 {ad : Nat → Nat} {d : Nat} {m : Wm} {x1 x2 : Int32} (w : WT m) (i1 : (0 : Int) ≤ x2.toInt) (i2 : x2.toInt ≤ (8 : Int)) (i3 : (m.1 140 5).toInt ≤ 12) : Ct ad μX3_takeSide (d + 1) [.ref (ad 140), .int x1, .int x2] m (fun r m' => WT m' ∧ Fx (RS [7]) m m' ∧ ∃ v : Int32, r = some (.int v) ∧ (0 : Int) ≤ v.toInt ∧ v.toInt ≤ 1 ∧ ((m'.1 140 5).toInt ≤ 12)) := by
  have f : Fx (RS [7]) m m := Fx.rf
  refine v_X3_takeSide Pl_140 ?_
  have tl1 : (1 : Int32).toInt = 1 := rfl
  have tl0 : (0 : Int32).toInt = 0 := rfl
  refine ⟨?_, ?_⟩
  · intro c1
    have k2 := z_lt c1
    have r3 := w.at (a := 140) (k := 5) rfl
    exact ⟨w, f, _, rfl, (by show (0 : Int) ≤ ((0 : Int32)).toInt; omega), (by show ((0 : Int32)).toInt ≤ 1; omega), (by show ((m.1 140 5)).toInt ≤ 12; omega)⟩
  · intro c4
    have k5 := z_nlt c4
    refine ⟨?_, ?_⟩
    · intro c6
      have k7 := z_le c6
      have r8 := w.at (a := 140) (k := 5) rfl
      exact ⟨w, f, _, rfl, (by show (0 : Int) ≤ ((0 : Int32)).toInt; omega), (by show ((0 : Int32)).toInt ≤ 1; omega), (by show ((m.1 140 5)).toInt ≤ 12; omega)⟩
    · intro c9
      have k10 := z_nle c9
      refine ⟨?_, ?_⟩
      · intro c11
        have t12 := t_and1 ((m.1 140 8) >>> (x1 &&& 31))
        have k13 := z_eq c11
        refine ⟨?_, ?_⟩
        · intro c14
          have c15 : ¬ (m.1 140 7) = (0 : Int32) := c14
          have k16 := z_ne c15
          refine ⟨?_, ?_⟩
          · intro c17
            have r18 := w.at (a := 140) (k := 6) rfl
            have c19 : (m.1 140 6) ≤ (0 : Int32) := c17
            have k20 := z_le c19
            have w21 : WT (uI m 140 8 ((m.1 140 8) ||| ((1 : Int32) <<< (x1 &&& 31)))) := w.n rfl
            have f21 : Fx (RS [7]) m (uI m 140 8 ((m.1 140 8) ||| ((1 : Int32) <<< (x1 &&& 31)))) := f.i rfl
            have w22 : WT (uI (uI m 140 8 ((m.1 140 8) ||| ((1 : Int32) <<< (x1 &&& 31)))) 140 7 (4 : Int32)) := w21.n rfl
            have f22 : Fx (RS [7]) m (uI (uI m 140 8 ((m.1 140 8) ||| ((1 : Int32) <<< (x1 &&& 31)))) 140 7 (4 : Int32)) := f21.i rfl
            have r23 := w.at (a := 140) (k := 5) rfl
            exact ⟨w22, f22, _, rfl, (by show (0 : Int) ≤ ((1 : Int32)).toInt; omega), (by show ((1 : Int32)).toInt ≤ 1; omega), (by show ((m.1 140 5)).toInt ≤ 12; omega)⟩
          · intro c24
            have r25 := w.at (a := 140) (k := 6) rfl
            have c26 : ¬ (m.1 140 6) ≤ (0 : Int32) := c24
            have k27 := z_nle c26
            refine ⟨?_, ?_⟩
            · have t28 := ti_sub (x := (m.1 140 6)) (y := (1 : Int32)) (by omega)
              show vp_in ((m.1 140 6) - (1 : Int32)) 48
              exact vpi (by omega) (by omega)
            · have w29 : WT (uI m 140 8 ((m.1 140 8) ||| ((1 : Int32) <<< (x1 &&& 31)))) := w.n rfl
              have f29 : Fx (RS [7]) m (uI m 140 8 ((m.1 140 8) ||| ((1 : Int32) <<< (x1 &&& 31)))) := f.i rfl
              have w30 : WT (uI (uI m 140 8 ((m.1 140 8) ||| ((1 : Int32) <<< (x1 &&& 31)))) (140 + 2) ((((uI m 140 8 ((m.1 140 8) ||| ((1 : Int32) <<< (x1 &&& 31)))).1 140 6) - (1 : Int32)).toNatClampNeg) x1) := w29.t rfl (by show (0 : Int) ≤ (x1).toInt; first | omega | decide) (by show (x1).toInt ≤ 7; first | omega | decide)
              have f30 : Fx (RS [7]) m (uI (uI m 140 8 ((m.1 140 8) ||| ((1 : Int32) <<< (x1 &&& 31)))) (140 + 2) ((((uI m 140 8 ((m.1 140 8) ||| ((1 : Int32) <<< (x1 &&& 31)))).1 140 6) - (1 : Int32)).toNatClampNeg) x1) := f29.i rfl
              have w31 : WT (uI (uI (uI m 140 8 ((m.1 140 8) ||| ((1 : Int32) <<< (x1 &&& 31)))) (140 + 2) ((((uI m 140 8 ((m.1 140 8) ||| ((1 : Int32) <<< (x1 &&& 31)))).1 140 6) - (1 : Int32)).toNatClampNeg) x1) 140 7 (4 : Int32)) := w30.n rfl
              have f31 : Fx (RS [7]) m (uI (uI (uI m 140 8 ((m.1 140 8) ||| ((1 : Int32) <<< (x1 &&& 31)))) (140 + 2) ((((uI m 140 8 ((m.1 140 8) ||| ((1 : Int32) <<< (x1 &&& 31)))).1 140 6) - (1 : Int32)).toNatClampNeg) x1) 140 7 (4 : Int32)) := f30.i rfl
              have r32 := w.at (a := 140) (k := 5) rfl
              exact ⟨w31, f31, _, rfl, (by show (0 : Int) ≤ ((1 : Int32)).toInt; omega), (by show ((1 : Int32)).toInt ≤ 1; omega), (by show ((m.1 140 5)).toInt ≤ 12; omega)⟩
        · intro c33
          have c34 : (m.1 140 7) = (0 : Int32) := c33
          have k35 := z_eq c34
          have w36 : WT (uI m 140 8 ((m.1 140 8) ||| ((1 : Int32) <<< (x1 &&& 31)))) := w.n rfl
          have f36 : Fx (RS [7]) m (uI m 140 8 ((m.1 140 8) ||| ((1 : Int32) <<< (x1 &&& 31)))) := f.i rfl
          refine (s_X3_addGame w36 (Or.inr rfl) (by show (0 : Int) ≤ (x1).toInt; omega) (by show (x1).toInt ≤ (7 : Int); omega) (by show (0 : Int) ≤ (x1).toInt; omega) (by show (x1).toInt ≤ (7 : Int); omega)).to ?_
          rintro _ m1 ⟨w_m1, g37, rfl, p38⟩
          have f_m1 : Fx (RS [7]) m m1 := f36.tr g37 (RS_sub rfl)
          have p39 : (m1.1 140 5).toInt = ((m.1 140 5)).toInt := p38
          refine ⟨rfl, ?_⟩
          have w40 : WT (uI m1 140 7 (1 : Int32)) := w_m1.n rfl
          have f40 : Fx (RS [7]) m (uI m1 140 7 (1 : Int32)) := f_m1.i rfl
          have r41 := w_m1.at (a := 140) (k := 5) rfl
          exact ⟨w40, f40, _, rfl, (by show (0 : Int) ≤ ((1 : Int32)).toInt; omega), (by show ((1 : Int32)).toInt ≤ 1; omega), (by show ((m1.1 140 5)).toInt ≤ 12; omega)⟩
      · intro c42
        have t43 := t_and1 ((m.1 140 8) >>> (x1 &&& 31))
        have k44 := z_ne c42
        have r45 := w.at (a := 140) (k := 5) rfl
        exact ⟨w, f, _, rfl, (by show (0 : Int) ≤ ((0 : Int32)).toInt; omega), (by show ((0 : Int32)).toInt ≤ 1; omega), (by show ((m.1 140 5)).toInt ≤ 12; omega)⟩
theorem s_X3_takeSide {ad : Nat → Nat} {d : Nat} {m : Wm} {b0 : Nat} {x1 x2 : Int32} (w : WT m) (hb0 : b0 = 134 ∨ b0 = 140) (i1 : (0 : Int) ≤ x2.toInt) (i2 : x2.toInt ≤ (8 : Int)) (i3 : (m.1 b0 5).toInt ≤ 12) : Ct ad μX3_takeSide (d + 1) [.ref (ad b0), .int x1, .int x2] m (fun r m' => WT m' ∧ Fx (RS [7]) m m' ∧ ∃ v : Int32, r = some (.int v) ∧ (0 : Int) ≤ v.toInt ∧ v.toInt ≤ 1 ∧ ((m'.1 b0 5).toInt ≤ 12)) := by
  rcases hb0 with rfl | rfl
  · exact s_X3_takeSide_134 w i1 i2 i3
  · exact s_X3_takeSide_140 w i1 i2 i3
set_option maxHeartbeats 4000000 in
theorem s_X3_take_134 {ad : Nat → Nat} {d : Nat} {m : Wm} {x1 x2 : Int32} (w : WT m) (i1 : (0 : Int) ≤ x2.toInt) (i2 : x2.toInt ≤ (8 : Int)) (i3 : (m.1 134 5).toInt ≤ 12 ∨ (m.1 134 7).toInt = 0) : Ct ad μX3_take (d + 2) [.ref (ad 134), .int x1, .int x2] m (fun r m' => WT m' ∧ Fx (RS [7]) m m' ∧ ∃ v : Int32, r = some (.int v) ∧ (0 : Int) ≤ v.toInt ∧ v.toInt ≤ 1 ∧ ((m'.1 134 5).toInt ≤ 12 ∨ (m'.1 134 7).toInt = 0)) := by
  have f : Fx (RS [7]) m m := Fx.rf
  refine v_X3_take Pl_134 ?_
  have tl12 : (12 : Int32).toInt = 12 := rfl
  have tl5 : (5 : Int32).toInt = 5 := rfl
  have tl4 : (4 : Int32).toInt = 4 := rfl
  have tl3 : (3 : Int32).toInt = 3 := rfl
  have tl2 : (2 : Int32).toInt = 2 := rfl
  have tl1 : (1 : Int32).toInt = 1 := rfl
  have tl0 : (0 : Int32).toInt = 0 := rfl
  refine ⟨?_, ?_, ?_, ?_, ?_, ?_⟩
  · intro c1
    have k2 := z_eq c1
    refine ⟨?_, ?_⟩
    · intro c3
      have r4 := w.at (a := 134) (k := 5) rfl
      have k5 := z_lt c3
      exact ⟨w, f, _, rfl, (by show (0 : Int) ≤ ((0 : Int32)).toInt; omega), (by show ((0 : Int32)).toInt ≤ 1; omega), (by show ((m.1 134 5)).toInt ≤ 12 ∨ ((m.1 134 7)).toInt = 0; omega)⟩
    · intro c6
      have r7 := w.at (a := 134) (k := 5) rfl
      have k8 := z_nlt c6
      refine (s_X3_takeSide w (Or.inl rfl) (by show (0 : Int) ≤ (x2).toInt; omega) (by show (x2).toInt ≤ (8 : Int); omega) (by show ((m.1 134 5)).toInt ≤ 12; omega)).to ?_
      rintro _ m3 ⟨w_m3, g9, v4, rfl, p11, p12, p10⟩
      have f_m3 : Fx (RS [7]) m m3 := f.tr g9 (RS_sub rfl)
      have p13 : (m3.1 134 5).toInt ≤ 12 := p10
      refine ⟨v4, rfl, ?_⟩
      refine ⟨?_, ?_⟩
      · intro c14
        have k15 := z_eq c14
        have r16 := w_m3.at (a := 134) (k := 5) rfl
        exact ⟨w_m3, f_m3, _, rfl, (by show (0 : Int) ≤ ((0 : Int32)).toInt; omega), (by show ((0 : Int32)).toInt ≤ 1; omega), (by show ((m3.1 134 5)).toInt ≤ 12 ∨ ((m3.1 134 7)).toInt = 0; omega)⟩
      · intro c17
        have k18 := z_ne c17
        have r19 := w_m3.at (a := 134) (k := 5) rfl
        exact ⟨w_m3, f_m3, _, rfl, (by show (0 : Int) ≤ ((1 : Int32)).toInt; omega), (by show ((1 : Int32)).toInt ≤ 1; omega), (by show ((m3.1 134 5)).toInt ≤ 12 ∨ ((m3.1 134 7)).toInt = 0; omega)⟩
  · intro c20
    have k21 := z_eq c20
    have r22 := w.at (a := 134) (k := 5) rfl
    refine (s_X3_takeThrow w (Or.inl rfl) (by show ((m.1 134 5)).toInt ≤ 12; omega)).to ?_
    rintro _ m5 ⟨w_m5, g23, v6, rfl, p25, p26, p24⟩
    have f_m5 : Fx (RS [7]) m m5 := f.tr g23 (RS_sub rfl)
    have p27 : (m5.1 134 5).toInt ≤ 12 := p24
    refine ⟨v6, rfl, ?_⟩
    refine ⟨?_, ?_⟩
    · intro c28
      have k29 := z_ne c28
      have r30 := w_m5.at (a := 134) (k := 5) rfl
      exact ⟨w_m5, f_m5, _, rfl, (by show (0 : Int) ≤ ((1 : Int32)).toInt; omega), (by show ((1 : Int32)).toInt ≤ 1; omega), (by show ((m5.1 134 5)).toInt ≤ 12 ∨ ((m5.1 134 7)).toInt = 0; omega)⟩
    · intro c31
      have k32 := z_eq c31
      have r33 := w_m5.at (a := 134) (k := 5) rfl
      refine (s_X3_takeDash w_m5 (Or.inl rfl) (by show ((m5.1 134 5)).toInt ≤ 12; omega)).to ?_
      rintro _ m7 ⟨w_m7, g34, v8, rfl, p36, p37, p35⟩
      have f_m7 : Fx (RS [7]) m m7 := f_m5.tr g34 (RS_sub rfl)
      have p38 : (m7.1 134 5).toInt ≤ 12 := p35
      refine ⟨v8, rfl, ?_⟩
      refine ⟨?_, ?_⟩
      · intro c39
        have k40 := z_eq c39
        have r41 := w_m7.at (a := 134) (k := 5) rfl
        exact ⟨w_m7, f_m7, _, rfl, (by show (0 : Int) ≤ ((0 : Int32)).toInt; omega), (by show ((0 : Int32)).toInt ≤ 1; omega), (by show ((m7.1 134 5)).toInt ≤ 12 ∨ ((m7.1 134 7)).toInt = 0; omega)⟩
      · intro c42
        have k43 := z_ne c42
        have r44 := w_m7.at (a := 134) (k := 5) rfl
        exact ⟨w_m7, f_m7, _, rfl, (by show (0 : Int) ≤ ((1 : Int32)).toInt; omega), (by show ((1 : Int32)).toInt ≤ 1; omega), (by show ((m7.1 134 5)).toInt ≤ 12 ∨ ((m7.1 134 7)).toInt = 0; omega)⟩
  · intro c45
    have k46 := z_eq c45
    have r47 := w.at (a := 134) (k := 5) rfl
    refine (s_X3_takeDash w (Or.inl rfl) (by show ((m.1 134 5)).toInt ≤ 12; omega)).to ?_
    rintro _ m9 ⟨w_m9, g48, v10, rfl, p50, p51, p49⟩
    have f_m9 : Fx (RS [7]) m m9 := f.tr g48 (RS_sub rfl)
    have p52 : (m9.1 134 5).toInt ≤ 12 := p49
    refine ⟨v10, rfl, ?_⟩
    refine ⟨?_, ?_⟩
    · exact bz_of (by omega) (by omega)
    · have r53 := w_m9.at (a := 134) (k := 5) rfl
      exact ⟨w_m9, f_m9, _, rfl, (by show (0 : Int) ≤ (v10).toInt; omega), (by show (v10).toInt ≤ 1; omega), (by show ((m9.1 134 5)).toInt ≤ 12 ∨ ((m9.1 134 7)).toInt = 0; omega)⟩
  · intro c54
    have k55 := z_eq c54
    refine ⟨?_, ?_⟩
    · intro c56
      have r57 := w.at (a := 134) (k := 5) rfl
      have k58 := z_lt c56
      exact ⟨w, f, _, rfl, (by show (0 : Int) ≤ ((0 : Int32)).toInt; omega), (by show ((0 : Int32)).toInt ≤ 1; omega), (by show ((m.1 134 5)).toInt ≤ 12 ∨ ((m.1 134 7)).toInt = 0; omega)⟩
    · intro c59
      have r60 := w.at (a := 134) (k := 5) rfl
      have k61 := z_nlt c59
      refine (s_X3_takeSide w (Or.inl rfl) (by show (0 : Int) ≤ (x2).toInt; omega) (by show (x2).toInt ≤ (8 : Int); omega) (by show ((m.1 134 5)).toInt ≤ 12; omega)).to ?_
      rintro _ m11 ⟨w_m11, g62, v12, rfl, p64, p65, p63⟩
      have f_m11 : Fx (RS [7]) m m11 := f.tr g62 (RS_sub rfl)
      have p66 : (m11.1 134 5).toInt ≤ 12 := p63
      refine ⟨v12, rfl, ?_⟩
      refine ⟨?_, ?_⟩
      · intro c67
        have k68 := z_eq c67
        have r69 := w_m11.at (a := 134) (k := 5) rfl
        exact ⟨w_m11, f_m11, _, rfl, (by show (0 : Int) ≤ ((0 : Int32)).toInt; omega), (by show ((0 : Int32)).toInt ≤ 1; omega), (by show ((m11.1 134 5)).toInt ≤ 12 ∨ ((m11.1 134 7)).toInt = 0; omega)⟩
      · intro c70
        have k71 := z_ne c70
        have r72 := w_m11.at (a := 134) (k := 5) rfl
        exact ⟨w_m11, f_m11, _, rfl, (by show (0 : Int) ≤ ((1 : Int32)).toInt; omega), (by show ((1 : Int32)).toInt ≤ 1; omega), (by show ((m11.1 134 5)).toInt ≤ 12 ∨ ((m11.1 134 7)).toInt = 0; omega)⟩
  · intro c73
    have k74 := z_eq c73
    have r75 := w.at (a := 134) (k := 5) rfl
    refine (s_X3_takeThrow w (Or.inl rfl) (by show ((m.1 134 5)).toInt ≤ 12; omega)).to ?_
    rintro _ m13 ⟨w_m13, g76, v14, rfl, p78, p79, p77⟩
    have f_m13 : Fx (RS [7]) m m13 := f.tr g76 (RS_sub rfl)
    have p80 : (m13.1 134 5).toInt ≤ 12 := p77
    refine ⟨v14, rfl, ?_⟩
    refine ⟨?_, ?_⟩
    · intro c81
      have k82 := z_ne c81
      have r83 := w_m13.at (a := 134) (k := 5) rfl
      exact ⟨w_m13, f_m13, _, rfl, (by show (0 : Int) ≤ ((1 : Int32)).toInt; omega), (by show ((1 : Int32)).toInt ≤ 1; omega), (by show ((m13.1 134 5)).toInt ≤ 12 ∨ ((m13.1 134 7)).toInt = 0; omega)⟩
    · intro c84
      have k85 := z_eq c84
      have r86 := w_m13.at (a := 134) (k := 5) rfl
      refine (s_X3_takeBreak w_m13 (Or.inl rfl) (by show ((m13.1 134 5)).toInt ≤ 12; omega)).to ?_
      rintro _ m15 ⟨w_m15, g87, v16, rfl, p89, p90, p88⟩
      have f_m15 : Fx (RS [7]) m m15 := f_m13.tr g87 (RS_sub rfl)
      have p91 : (m15.1 134 5).toInt ≤ 12 ∨ (m15.1 134 7).toInt = 0 := p88
      refine ⟨v16, rfl, ?_⟩
      refine ⟨?_, ?_⟩
      · intro c92
        have k93 := z_eq c92
        have r94 := w_m15.at (a := 134) (k := 5) rfl
        exact ⟨w_m15, f_m15, _, rfl, (by show (0 : Int) ≤ ((0 : Int32)).toInt; omega), (by show ((0 : Int32)).toInt ≤ 1; omega), (by show ((m15.1 134 5)).toInt ≤ 12 ∨ ((m15.1 134 7)).toInt = 0; omega)⟩
      · intro c95
        have k96 := z_ne c95
        have r97 := w_m15.at (a := 134) (k := 5) rfl
        exact ⟨w_m15, f_m15, _, rfl, (by show (0 : Int) ≤ ((1 : Int32)).toInt; omega), (by show ((1 : Int32)).toInt ≤ 1; omega), (by show ((m15.1 134 5)).toInt ≤ 12 ∨ ((m15.1 134 7)).toInt = 0; omega)⟩
  · intro c98
    have k99 := z_ne c98
    intro c100
    have k101 := z_ne c100
    intro c102
    have k103 := z_ne c102
    intro c104
    have k105 := z_ne c104
    intro c106
    have k107 := z_ne c106
    have r108 := w.at (a := 134) (k := 5) rfl
    refine (s_X3_takeBreak w (Or.inl rfl) (by show ((m.1 134 5)).toInt ≤ 12; omega)).to ?_
    rintro _ m1 ⟨w_m1, g109, v2, rfl, p111, p112, p110⟩
    have f_m1 : Fx (RS [7]) m m1 := f.tr g109 (RS_sub rfl)
    have p113 : (m1.1 134 5).toInt ≤ 12 ∨ (m1.1 134 7).toInt = 0 := p110
    refine ⟨v2, rfl, ?_⟩
    refine ⟨?_, ?_⟩
    · exact bz_of (by omega) (by omega)
    · have r114 := w_m1.at (a := 134) (k := 5) rfl
      exact ⟨w_m1, f_m1, _, rfl, (by show (0 : Int) ≤ (v2).toInt; omega), (by show (v2).toInt ≤ 1; omega), (by show ((m1.1 134 5)).toInt ≤ 12 ∨ ((m1.1 134 7)).toInt = 0; omega)⟩
set_option maxHeartbeats 4000000 in
theorem s_X3_take_140 {ad : Nat → Nat} {d : Nat} {m : Wm} {x1 x2 : Int32} (w : WT m) (i1 : (0 : Int) ≤ x2.toInt) (i2 : x2.toInt ≤ (8 : Int)) (i3 : (m.1 140 5).toInt ≤ 12 ∨ (m.1 140 7).toInt = 0) : Ct ad μX3_take (d + 2) [.ref (ad 140), .int x1, .int x2] m (fun r m' => WT m' ∧ Fx (RS [7]) m m' ∧ ∃ v : Int32, r = some (.int v) ∧ (0 : Int) ≤ v.toInt ∧ v.toInt ≤ 1 ∧ ((m'.1 140 5).toInt ≤ 12 ∨ (m'.1 140 7).toInt = 0)) := by
  have f : Fx (RS [7]) m m := Fx.rf
  refine v_X3_take Pl_140 ?_
  have tl12 : (12 : Int32).toInt = 12 := rfl
  have tl5 : (5 : Int32).toInt = 5 := rfl
  have tl4 : (4 : Int32).toInt = 4 := rfl
  have tl3 : (3 : Int32).toInt = 3 := rfl
  have tl2 : (2 : Int32).toInt = 2 := rfl
  have tl1 : (1 : Int32).toInt = 1 := rfl
  have tl0 : (0 : Int32).toInt = 0 := rfl
  refine ⟨?_, ?_, ?_, ?_, ?_, ?_⟩
  · intro c1
    have k2 := z_eq c1
    refine ⟨?_, ?_⟩
    · intro c3
      have r4 := w.at (a := 140) (k := 5) rfl
      have k5 := z_lt c3
      exact ⟨w, f, _, rfl, (by show (0 : Int) ≤ ((0 : Int32)).toInt; omega), (by show ((0 : Int32)).toInt ≤ 1; omega), (by show ((m.1 140 5)).toInt ≤ 12 ∨ ((m.1 140 7)).toInt = 0; omega)⟩
    · intro c6
      have r7 := w.at (a := 140) (k := 5) rfl
      have k8 := z_nlt c6
      refine (s_X3_takeSide w (Or.inr rfl) (by show (0 : Int) ≤ (x2).toInt; omega) (by show (x2).toInt ≤ (8 : Int); omega) (by show ((m.1 140 5)).toInt ≤ 12; omega)).to ?_
      rintro _ m3 ⟨w_m3, g9, v4, rfl, p11, p12, p10⟩
      have f_m3 : Fx (RS [7]) m m3 := f.tr g9 (RS_sub rfl)
      have p13 : (m3.1 140 5).toInt ≤ 12 := p10
      refine ⟨v4, rfl, ?_⟩
      refine ⟨?_, ?_⟩
      · intro c14
        have k15 := z_eq c14
        have r16 := w_m3.at (a := 140) (k := 5) rfl
        exact ⟨w_m3, f_m3, _, rfl, (by show (0 : Int) ≤ ((0 : Int32)).toInt; omega), (by show ((0 : Int32)).toInt ≤ 1; omega), (by show ((m3.1 140 5)).toInt ≤ 12 ∨ ((m3.1 140 7)).toInt = 0; omega)⟩
      · intro c17
        have k18 := z_ne c17
        have r19 := w_m3.at (a := 140) (k := 5) rfl
        exact ⟨w_m3, f_m3, _, rfl, (by show (0 : Int) ≤ ((1 : Int32)).toInt; omega), (by show ((1 : Int32)).toInt ≤ 1; omega), (by show ((m3.1 140 5)).toInt ≤ 12 ∨ ((m3.1 140 7)).toInt = 0; omega)⟩
  · intro c20
    have k21 := z_eq c20
    have r22 := w.at (a := 140) (k := 5) rfl
    refine (s_X3_takeThrow w (Or.inr rfl) (by show ((m.1 140 5)).toInt ≤ 12; omega)).to ?_
    rintro _ m5 ⟨w_m5, g23, v6, rfl, p25, p26, p24⟩
    have f_m5 : Fx (RS [7]) m m5 := f.tr g23 (RS_sub rfl)
    have p27 : (m5.1 140 5).toInt ≤ 12 := p24
    refine ⟨v6, rfl, ?_⟩
    refine ⟨?_, ?_⟩
    · intro c28
      have k29 := z_ne c28
      have r30 := w_m5.at (a := 140) (k := 5) rfl
      exact ⟨w_m5, f_m5, _, rfl, (by show (0 : Int) ≤ ((1 : Int32)).toInt; omega), (by show ((1 : Int32)).toInt ≤ 1; omega), (by show ((m5.1 140 5)).toInt ≤ 12 ∨ ((m5.1 140 7)).toInt = 0; omega)⟩
    · intro c31
      have k32 := z_eq c31
      have r33 := w_m5.at (a := 140) (k := 5) rfl
      refine (s_X3_takeDash w_m5 (Or.inr rfl) (by show ((m5.1 140 5)).toInt ≤ 12; omega)).to ?_
      rintro _ m7 ⟨w_m7, g34, v8, rfl, p36, p37, p35⟩
      have f_m7 : Fx (RS [7]) m m7 := f_m5.tr g34 (RS_sub rfl)
      have p38 : (m7.1 140 5).toInt ≤ 12 := p35
      refine ⟨v8, rfl, ?_⟩
      refine ⟨?_, ?_⟩
      · intro c39
        have k40 := z_eq c39
        have r41 := w_m7.at (a := 140) (k := 5) rfl
        exact ⟨w_m7, f_m7, _, rfl, (by show (0 : Int) ≤ ((0 : Int32)).toInt; omega), (by show ((0 : Int32)).toInt ≤ 1; omega), (by show ((m7.1 140 5)).toInt ≤ 12 ∨ ((m7.1 140 7)).toInt = 0; omega)⟩
      · intro c42
        have k43 := z_ne c42
        have r44 := w_m7.at (a := 140) (k := 5) rfl
        exact ⟨w_m7, f_m7, _, rfl, (by show (0 : Int) ≤ ((1 : Int32)).toInt; omega), (by show ((1 : Int32)).toInt ≤ 1; omega), (by show ((m7.1 140 5)).toInt ≤ 12 ∨ ((m7.1 140 7)).toInt = 0; omega)⟩
  · intro c45
    have k46 := z_eq c45
    have r47 := w.at (a := 140) (k := 5) rfl
    refine (s_X3_takeDash w (Or.inr rfl) (by show ((m.1 140 5)).toInt ≤ 12; omega)).to ?_
    rintro _ m9 ⟨w_m9, g48, v10, rfl, p50, p51, p49⟩
    have f_m9 : Fx (RS [7]) m m9 := f.tr g48 (RS_sub rfl)
    have p52 : (m9.1 140 5).toInt ≤ 12 := p49
    refine ⟨v10, rfl, ?_⟩
    refine ⟨?_, ?_⟩
    · exact bz_of (by omega) (by omega)
    · have r53 := w_m9.at (a := 140) (k := 5) rfl
      exact ⟨w_m9, f_m9, _, rfl, (by show (0 : Int) ≤ (v10).toInt; omega), (by show (v10).toInt ≤ 1; omega), (by show ((m9.1 140 5)).toInt ≤ 12 ∨ ((m9.1 140 7)).toInt = 0; omega)⟩
  · intro c54
    have k55 := z_eq c54
    refine ⟨?_, ?_⟩
    · intro c56
      have r57 := w.at (a := 140) (k := 5) rfl
      have k58 := z_lt c56
      exact ⟨w, f, _, rfl, (by show (0 : Int) ≤ ((0 : Int32)).toInt; omega), (by show ((0 : Int32)).toInt ≤ 1; omega), (by show ((m.1 140 5)).toInt ≤ 12 ∨ ((m.1 140 7)).toInt = 0; omega)⟩
    · intro c59
      have r60 := w.at (a := 140) (k := 5) rfl
      have k61 := z_nlt c59
      refine (s_X3_takeSide w (Or.inr rfl) (by show (0 : Int) ≤ (x2).toInt; omega) (by show (x2).toInt ≤ (8 : Int); omega) (by show ((m.1 140 5)).toInt ≤ 12; omega)).to ?_
      rintro _ m11 ⟨w_m11, g62, v12, rfl, p64, p65, p63⟩
      have f_m11 : Fx (RS [7]) m m11 := f.tr g62 (RS_sub rfl)
      have p66 : (m11.1 140 5).toInt ≤ 12 := p63
      refine ⟨v12, rfl, ?_⟩
      refine ⟨?_, ?_⟩
      · intro c67
        have k68 := z_eq c67
        have r69 := w_m11.at (a := 140) (k := 5) rfl
        exact ⟨w_m11, f_m11, _, rfl, (by show (0 : Int) ≤ ((0 : Int32)).toInt; omega), (by show ((0 : Int32)).toInt ≤ 1; omega), (by show ((m11.1 140 5)).toInt ≤ 12 ∨ ((m11.1 140 7)).toInt = 0; omega)⟩
      · intro c70
        have k71 := z_ne c70
        have r72 := w_m11.at (a := 140) (k := 5) rfl
        exact ⟨w_m11, f_m11, _, rfl, (by show (0 : Int) ≤ ((1 : Int32)).toInt; omega), (by show ((1 : Int32)).toInt ≤ 1; omega), (by show ((m11.1 140 5)).toInt ≤ 12 ∨ ((m11.1 140 7)).toInt = 0; omega)⟩
  · intro c73
    have k74 := z_eq c73
    have r75 := w.at (a := 140) (k := 5) rfl
    refine (s_X3_takeThrow w (Or.inr rfl) (by show ((m.1 140 5)).toInt ≤ 12; omega)).to ?_
    rintro _ m13 ⟨w_m13, g76, v14, rfl, p78, p79, p77⟩
    have f_m13 : Fx (RS [7]) m m13 := f.tr g76 (RS_sub rfl)
    have p80 : (m13.1 140 5).toInt ≤ 12 := p77
    refine ⟨v14, rfl, ?_⟩
    refine ⟨?_, ?_⟩
    · intro c81
      have k82 := z_ne c81
      have r83 := w_m13.at (a := 140) (k := 5) rfl
      exact ⟨w_m13, f_m13, _, rfl, (by show (0 : Int) ≤ ((1 : Int32)).toInt; omega), (by show ((1 : Int32)).toInt ≤ 1; omega), (by show ((m13.1 140 5)).toInt ≤ 12 ∨ ((m13.1 140 7)).toInt = 0; omega)⟩
    · intro c84
      have k85 := z_eq c84
      have r86 := w_m13.at (a := 140) (k := 5) rfl
      refine (s_X3_takeBreak w_m13 (Or.inr rfl) (by show ((m13.1 140 5)).toInt ≤ 12; omega)).to ?_
      rintro _ m15 ⟨w_m15, g87, v16, rfl, p89, p90, p88⟩
      have f_m15 : Fx (RS [7]) m m15 := f_m13.tr g87 (RS_sub rfl)
      have p91 : (m15.1 140 5).toInt ≤ 12 ∨ (m15.1 140 7).toInt = 0 := p88
      refine ⟨v16, rfl, ?_⟩
      refine ⟨?_, ?_⟩
      · intro c92
        have k93 := z_eq c92
        have r94 := w_m15.at (a := 140) (k := 5) rfl
        exact ⟨w_m15, f_m15, _, rfl, (by show (0 : Int) ≤ ((0 : Int32)).toInt; omega), (by show ((0 : Int32)).toInt ≤ 1; omega), (by show ((m15.1 140 5)).toInt ≤ 12 ∨ ((m15.1 140 7)).toInt = 0; omega)⟩
      · intro c95
        have k96 := z_ne c95
        have r97 := w_m15.at (a := 140) (k := 5) rfl
        exact ⟨w_m15, f_m15, _, rfl, (by show (0 : Int) ≤ ((1 : Int32)).toInt; omega), (by show ((1 : Int32)).toInt ≤ 1; omega), (by show ((m15.1 140 5)).toInt ≤ 12 ∨ ((m15.1 140 7)).toInt = 0; omega)⟩
  · intro c98
    have k99 := z_ne c98
    intro c100
    have k101 := z_ne c100
    intro c102
    have k103 := z_ne c102
    intro c104
    have k105 := z_ne c104
    intro c106
    have k107 := z_ne c106
    have r108 := w.at (a := 140) (k := 5) rfl
    refine (s_X3_takeBreak w (Or.inr rfl) (by show ((m.1 140 5)).toInt ≤ 12; omega)).to ?_
    rintro _ m1 ⟨w_m1, g109, v2, rfl, p111, p112, p110⟩
    have f_m1 : Fx (RS [7]) m m1 := f.tr g109 (RS_sub rfl)
    have p113 : (m1.1 140 5).toInt ≤ 12 ∨ (m1.1 140 7).toInt = 0 := p110
    refine ⟨v2, rfl, ?_⟩
    refine ⟨?_, ?_⟩
    · exact bz_of (by omega) (by omega)
    · have r114 := w_m1.at (a := 140) (k := 5) rfl
      exact ⟨w_m1, f_m1, _, rfl, (by show (0 : Int) ≤ (v2).toInt; omega), (by show (v2).toInt ≤ 1; omega), (by show ((m1.1 140 5)).toInt ≤ 12 ∨ ((m1.1 140 7)).toInt = 0; omega)⟩
theorem s_X3_take {ad : Nat → Nat} {d : Nat} {m : Wm} {b0 : Nat} {x1 x2 : Int32} (w : WT m) (hb0 : b0 = 134 ∨ b0 = 140) (i1 : (0 : Int) ≤ x2.toInt) (i2 : x2.toInt ≤ (8 : Int)) (i3 : (m.1 b0 5).toInt ≤ 12 ∨ (m.1 b0 7).toInt = 0) : Ct ad μX3_take (d + 2) [.ref (ad b0), .int x1, .int x2] m (fun r m' => WT m' ∧ Fx (RS [7]) m m' ∧ ∃ v : Int32, r = some (.int v) ∧ (0 : Int) ≤ v.toInt ∧ v.toInt ≤ 1 ∧ ((m'.1 b0 5).toInt ≤ 12 ∨ (m'.1 b0 7).toInt = 0)) := by
  rcases hb0 with rfl | rfl
  · exact s_X3_take_134 w i1 i2 i3
  · exact s_X3_take_140 w i1 i2 i3
set_option maxHeartbeats 4000000 in
theorem l_X3_compile_134 {ad : Nat → Nat} {d : Nat} {m0 : Wm}  : ∀ n : Nat, (∀ (m : Wm) (x2 x3 x4 : Int32), WT m → Fx (RS [7]) m0 m → (0 : Int) ≤ x2.toInt → x2.toInt ≤ (8 : Int) → (0 : Int) ≤ x3.toInt → x3.toInt ≤ (76 : Int) → (0 : Int) ≤ x4.toInt → x4.toInt ≤ (80 : Int) → ((m.1 134 5).toInt ≤ 12 ∨ (m.1 134 7).toInt = 0) → 80 - x4.toInt < (n : Int) → AW ad E0 μX3_compile (d + 3) (fun r m' => WT m' ∧ Fx (RS [7]) m0 m' ∧ ∃ v : Int32, r = some (.int v)) 30 [(0, .ref (ad 134)), (1, .ref (ad 1)), (2, .int x2), (3, .int x3), (4, .int x4)] [] m) := by
  intro n
  induction n with
  | zero =>
    intros
    exfalso
    omega
  | succ n ih =>
    intro m x2 x3 x4 w f j1 j2 j3 j4 j5 j6 j7 hn
    refine g_X3_compile_30 Pl_134 ?_
    have tl76 : (76 : Int32).toInt = 76 := rfl
    have tl5 : (5 : Int32).toInt = 5 := rfl
    have tl4 : (4 : Int32).toInt = 4 := rfl
    have tl1 : (1 : Int32).toInt = 1 := rfl
    have tl0 : (0 : Int32).toInt = 0 := rfl
    have tlm1 : (-1 : Int32).toInt = -1 := rfl
    refine ⟨?_, ?_⟩
    · intro c1
      have k2 := z_le c1
      refine ⟨?_, ?_⟩
      · intro c3
        have r4 := w.at (a := 1) (k := 1) rfl
        have k5 := z_lt c3
        exact ⟨w, f, _, rfl⟩
      · intro c6
        have r7 := w.at (a := 1) (k := 1) rfl
        have k8 := z_nlt c6
        refine ⟨?_, ?_⟩
        · intro c9
          have k10 := z_eq c9
          exact ⟨w, f, _, rfl⟩
        · intro c11
          have k12 := z_ne c11
          refine ⟨?_, ?_⟩
          · intro c13
            have k14 := z_eq c13
            exact ⟨w, f, _, rfl⟩
          · intro c15
            have k16 := z_ne c15
            exact ⟨w, f, _, rfl⟩
    · intro c17
      have k18 := z_nle c17
      refine ⟨?_, ?_⟩
      · exact vpi (by omega) (by omega)
      · have r19 := w.at (a := 134) (k := 5) rfl
        refine (s_X3_take w (Or.inl rfl) (by show (0 : Int) ≤ (x2).toInt; omega) (by show (x2).toInt ≤ (8 : Int); omega) (by show ((m.1 134 5)).toInt ≤ 12 ∨ ((m.1 134 7)).toInt = 0; omega)).to ?_
        rintro _ m1 ⟨w_m1, g20, v2, rfl, p22, p23, p21⟩
        have f_m1 : Fx (RS [7]) m0 m1 := f.tr g20 (RS_sub rfl)
        have p24 : (m1.1 134 5).toInt ≤ 12 ∨ (m1.1 134 7).toInt = 0 := p21
        refine ⟨v2, rfl, ?_⟩
        refine ⟨?_, ?_⟩
        · intro c25
          have k26 := z_ne c25
          have t27 := ti_add (x := x4) (y := (1 : Int32)) (by omega)
          have r28 := w_m1.at (a := 134) (k := 5) rfl
          exact ih _ _ _ _ w_m1 f_m1 (by show (0 : Int) ≤ (x2).toInt; omega) (by show (x2).toInt ≤ (8 : Int); omega) (by show (0 : Int) ≤ (x3).toInt; omega) (by show (x3).toInt ≤ (76 : Int); omega) (by show (0 : Int) ≤ ((x4 + (1 : Int32))).toInt; omega) (by show ((x4 + (1 : Int32))).toInt ≤ (80 : Int); omega) (by show ((m1.1 134 5)).toInt ≤ 12 ∨ ((m1.1 134 7)).toInt = 0; omega) (by omega)
        · intro c29
          have k30 := z_eq c29
          exact ⟨w_m1, f_m1, _, rfl⟩
set_option maxHeartbeats 4000000 in
theorem s_X3_compile_134 {ad : Nat → Nat} {d : Nat} {m : Wm} {x2 : Int32} (w : WT m) (i1 : (0 : Int) ≤ x2.toInt) (i2 : x2.toInt ≤ (8 : Int)) : Ct ad μX3_compile (d + 3) [.ref (ad 134), .ref (ad 1), .int x2] m (fun r m' => WT m' ∧ Fx (RS [7]) m m' ∧ ∃ v : Int32, r = some (.int v)) := by
  have f : Fx (RS [7]) m m := Fx.rf
  refine v_X3_compile Pl_134 ?_
  have tl76 : (76 : Int32).toInt = 76 := rfl
  have tl0 : (0 : Int32).toInt = 0 := rfl
  have tlm1 : (-1 : Int32).toInt = -1 := rfl
  refine (s_X3_clear w (Or.inl rfl)).to ?_
  rintro _ m1 ⟨w_m1, g1, rfl, p2⟩
  have f_m1 : Fx (RS [7]) m m1 := f.tr g1 (RS_sub rfl)
  have p3 : (m1.1 134 5).toInt = 0 := p2
  refine ⟨rfl, ?_⟩
  refine ⟨?_, ?_⟩
  · intro c4
    have r5 := w_m1.at (a := 1) (k := 1) rfl
    have k6 := z_ne c4
    have r7 := w_m1.at (a := 134) (k := 5) rfl
    refine (s_X3_openRound w_m1 (Or.inl rfl) (by show ((m1.1 134 5)).toInt ≤ 12; omega)).to ?_
    rintro _ m2 ⟨w_m2, g8, rfl, p9, p10⟩
    have f_m2 : Fx (RS [7]) m m2 := f_m1.tr g8 (RS_sub rfl)
    have p11 : (m2.1 134 5).toInt = ((m1.1 134 5)).toInt + 1 := p9
    have p12 : (m2.1 134 7).toInt = 0 := p10
    refine ⟨rfl, ?_⟩
    have r13 := w_m2.at (a := 1) (k := 1) rfl
    have t14 := ti_lt (76 : Int32) (m2.1 1 1) (76 : Int32) (m2.1 1 1)
    have r15 := w_m2.at (a := 134) (k := 5) rfl
    exact (l_X3_compile_134 (m0 := m) 1000000) _ _ _ _ w_m2 f_m2 (by show (0 : Int) ≤ (x2).toInt; omega) (by show (x2).toInt ≤ (8 : Int); omega) (by show (0 : Int) ≤ ((if (76 : Int32) < (m2.1 1 1) then (76 : Int32) else (m2.1 1 1))).toInt; omega) (by show ((if (76 : Int32) < (m2.1 1 1) then (76 : Int32) else (m2.1 1 1))).toInt ≤ (76 : Int); omega) (by show (0 : Int) ≤ ((0 : Int32)).toInt; omega) (by show ((0 : Int32)).toInt ≤ (80 : Int); omega) (by show ((m2.1 134 5)).toInt ≤ 12 ∨ ((m2.1 134 7)).toInt = 0; omega) (by show 80 - ((0 : Int32)).toInt < _; omega)
  · intro c16
    have r17 := w_m1.at (a := 1) (k := 1) rfl
    have k18 := z_eq c16
    exact ⟨w_m1, f_m1, _, rfl⟩
set_option maxHeartbeats 4000000 in
theorem l_X3_compile_140 {ad : Nat → Nat} {d : Nat} {m0 : Wm}  : ∀ n : Nat, (∀ (m : Wm) (x2 x3 x4 : Int32), WT m → Fx (RS [7]) m0 m → (0 : Int) ≤ x2.toInt → x2.toInt ≤ (8 : Int) → (0 : Int) ≤ x3.toInt → x3.toInt ≤ (76 : Int) → (0 : Int) ≤ x4.toInt → x4.toInt ≤ (80 : Int) → ((m.1 140 5).toInt ≤ 12 ∨ (m.1 140 7).toInt = 0) → 80 - x4.toInt < (n : Int) → AW ad E0 μX3_compile (d + 3) (fun r m' => WT m' ∧ Fx (RS [7]) m0 m' ∧ ∃ v : Int32, r = some (.int v)) 30 [(0, .ref (ad 140)), (1, .ref (ad 1)), (2, .int x2), (3, .int x3), (4, .int x4)] [] m) := by
  intro n
  induction n with
  | zero =>
    intros
    exfalso
    omega
  | succ n ih =>
    intro m x2 x3 x4 w f j1 j2 j3 j4 j5 j6 j7 hn
    refine g_X3_compile_30 Pl_140 ?_
    have tl76 : (76 : Int32).toInt = 76 := rfl
    have tl5 : (5 : Int32).toInt = 5 := rfl
    have tl4 : (4 : Int32).toInt = 4 := rfl
    have tl1 : (1 : Int32).toInt = 1 := rfl
    have tl0 : (0 : Int32).toInt = 0 := rfl
    have tlm1 : (-1 : Int32).toInt = -1 := rfl
    refine ⟨?_, ?_⟩
    · intro c1
      have k2 := z_le c1
      refine ⟨?_, ?_⟩
      · intro c3
        have r4 := w.at (a := 1) (k := 1) rfl
        have k5 := z_lt c3
        exact ⟨w, f, _, rfl⟩
      · intro c6
        have r7 := w.at (a := 1) (k := 1) rfl
        have k8 := z_nlt c6
        refine ⟨?_, ?_⟩
        · intro c9
          have k10 := z_eq c9
          exact ⟨w, f, _, rfl⟩
        · intro c11
          have k12 := z_ne c11
          refine ⟨?_, ?_⟩
          · intro c13
            have k14 := z_eq c13
            exact ⟨w, f, _, rfl⟩
          · intro c15
            have k16 := z_ne c15
            exact ⟨w, f, _, rfl⟩
    · intro c17
      have k18 := z_nle c17
      refine ⟨?_, ?_⟩
      · exact vpi (by omega) (by omega)
      · have r19 := w.at (a := 140) (k := 5) rfl
        refine (s_X3_take w (Or.inr rfl) (by show (0 : Int) ≤ (x2).toInt; omega) (by show (x2).toInt ≤ (8 : Int); omega) (by show ((m.1 140 5)).toInt ≤ 12 ∨ ((m.1 140 7)).toInt = 0; omega)).to ?_
        rintro _ m1 ⟨w_m1, g20, v2, rfl, p22, p23, p21⟩
        have f_m1 : Fx (RS [7]) m0 m1 := f.tr g20 (RS_sub rfl)
        have p24 : (m1.1 140 5).toInt ≤ 12 ∨ (m1.1 140 7).toInt = 0 := p21
        refine ⟨v2, rfl, ?_⟩
        refine ⟨?_, ?_⟩
        · intro c25
          have k26 := z_ne c25
          have t27 := ti_add (x := x4) (y := (1 : Int32)) (by omega)
          have r28 := w_m1.at (a := 140) (k := 5) rfl
          exact ih _ _ _ _ w_m1 f_m1 (by show (0 : Int) ≤ (x2).toInt; omega) (by show (x2).toInt ≤ (8 : Int); omega) (by show (0 : Int) ≤ (x3).toInt; omega) (by show (x3).toInt ≤ (76 : Int); omega) (by show (0 : Int) ≤ ((x4 + (1 : Int32))).toInt; omega) (by show ((x4 + (1 : Int32))).toInt ≤ (80 : Int); omega) (by show ((m1.1 140 5)).toInt ≤ 12 ∨ ((m1.1 140 7)).toInt = 0; omega) (by omega)
        · intro c29
          have k30 := z_eq c29
          exact ⟨w_m1, f_m1, _, rfl⟩
set_option maxHeartbeats 4000000 in
theorem s_X3_compile_140 {ad : Nat → Nat} {d : Nat} {m : Wm} {x2 : Int32} (w : WT m) (i1 : (0 : Int) ≤ x2.toInt) (i2 : x2.toInt ≤ (8 : Int)) : Ct ad μX3_compile (d + 3) [.ref (ad 140), .ref (ad 1), .int x2] m (fun r m' => WT m' ∧ Fx (RS [7]) m m' ∧ ∃ v : Int32, r = some (.int v)) := by
  have f : Fx (RS [7]) m m := Fx.rf
  refine v_X3_compile Pl_140 ?_
  have tl76 : (76 : Int32).toInt = 76 := rfl
  have tl0 : (0 : Int32).toInt = 0 := rfl
  have tlm1 : (-1 : Int32).toInt = -1 := rfl
  refine (s_X3_clear w (Or.inr rfl)).to ?_
  rintro _ m1 ⟨w_m1, g1, rfl, p2⟩
  have f_m1 : Fx (RS [7]) m m1 := f.tr g1 (RS_sub rfl)
  have p3 : (m1.1 140 5).toInt = 0 := p2
  refine ⟨rfl, ?_⟩
  refine ⟨?_, ?_⟩
  · intro c4
    have r5 := w_m1.at (a := 1) (k := 1) rfl
    have k6 := z_ne c4
    have r7 := w_m1.at (a := 140) (k := 5) rfl
    refine (s_X3_openRound w_m1 (Or.inr rfl) (by show ((m1.1 140 5)).toInt ≤ 12; omega)).to ?_
    rintro _ m2 ⟨w_m2, g8, rfl, p9, p10⟩
    have f_m2 : Fx (RS [7]) m m2 := f_m1.tr g8 (RS_sub rfl)
    have p11 : (m2.1 140 5).toInt = ((m1.1 140 5)).toInt + 1 := p9
    have p12 : (m2.1 140 7).toInt = 0 := p10
    refine ⟨rfl, ?_⟩
    have r13 := w_m2.at (a := 1) (k := 1) rfl
    have t14 := ti_lt (76 : Int32) (m2.1 1 1) (76 : Int32) (m2.1 1 1)
    have r15 := w_m2.at (a := 140) (k := 5) rfl
    exact (l_X3_compile_140 (m0 := m) 1000000) _ _ _ _ w_m2 f_m2 (by show (0 : Int) ≤ (x2).toInt; omega) (by show (x2).toInt ≤ (8 : Int); omega) (by show (0 : Int) ≤ ((if (76 : Int32) < (m2.1 1 1) then (76 : Int32) else (m2.1 1 1))).toInt; omega) (by show ((if (76 : Int32) < (m2.1 1 1) then (76 : Int32) else (m2.1 1 1))).toInt ≤ (76 : Int); omega) (by show (0 : Int) ≤ ((0 : Int32)).toInt; omega) (by show ((0 : Int32)).toInt ≤ (80 : Int); omega) (by show ((m2.1 140 5)).toInt ≤ 12 ∨ ((m2.1 140 7)).toInt = 0; omega) (by show 80 - ((0 : Int32)).toInt < _; omega)
  · intro c16
    have r17 := w_m1.at (a := 1) (k := 1) rfl
    have k18 := z_eq c16
    exact ⟨w_m1, f_m1, _, rfl⟩
theorem s_X3_compile {ad : Nat → Nat} {d : Nat} {m : Wm} {b0 : Nat} {x2 : Int32} (w : WT m) (hb0 : b0 = 134 ∨ b0 = 140) (i1 : (0 : Int) ≤ x2.toInt) (i2 : x2.toInt ≤ (8 : Int)) : Ct ad μX3_compile (d + 3) [.ref (ad b0), .ref (ad 1), .int x2] m (fun r m' => WT m' ∧ Fx (RS [7]) m m' ∧ ∃ v : Int32, r = some (.int v)) := by
  rcases hb0 with rfl | rfl
  · exact s_X3_compile_134 w i1 i2
  · exact s_X3_compile_140 w i1 i2
set_option maxHeartbeats 4000000 in
theorem l_X3_turnPlaces_134 {ad : Nat → Nat} {d : Nat} {m0 : Wm}  : ∀ n : Nat, (∀ (m : Wm) (x2 x3 : Int32), WT m → Fx (RS [7]) m0 m → (0 : Int) ≤ x2.toInt → x2.toInt ≤ (7 : Int) → (1 : Int) ≤ x3.toInt → x3.toInt ≤ (7 : Int) → ((m.1 134 5).toInt = (m0.1 134 5).toInt) → x3.toInt + 0 < (n : Int) → AW ad E0 μX3_turnPlaces d (fun r m' => WT m' ∧ Fx (RS [7]) m0 m' ∧ r = none ∧ ((m'.1 134 5).toInt = (m0.1 134 5).toInt)) 13 [(0, .ref (ad 134)), (2, .int x2), (3, .int x3)] [] m) := by
  intro n
  induction n with
  | zero =>
    intros
    exfalso
    omega
  | succ n ih =>
    intro m x2 x3 w f j1 j2 j3 j4 j5 hn
    refine g_X3_turnPlaces_13 Pl_134 ?_
    have tl1 : (1 : Int32).toInt = 1 := rfl
    have tlm1 : (-1 : Int32).toInt = -1 := rfl
    refine ⟨?_, ?_⟩
    · intro c1
      have k2 := z_le c1
      have w3 : WT (uI m (134 + 5) ((1 : Int32).toNatClampNeg) x2) := w.t rfl (by show (0 : Int) ≤ (x2).toInt; first | omega | decide) (by show (x2).toInt ≤ 7; first | omega | decide)
      have f3 : Fx (RS [7]) m0 (uI m (134 + 5) ((1 : Int32).toNatClampNeg) x2) := f.i rfl
      have r4 := w.at (a := 134) (k := 5) rfl
      exact ⟨w3, f3, rfl, (by show ((m.1 134 5)).toInt = (m0.1 134 5).toInt; omega)⟩
    · intro c5
      have k6 := z_nle c5
      refine ⟨?_, ?_⟩
      · have t7 := ti_sub (x := x3) (y := (1 : Int32)) (by omega)
        exact vpi (by omega) (by omega)
      · refine ⟨?_, ?_⟩
        · exact vpi (by omega) (by omega)
        · have r9 := w.at (a := (134 + 5)) (k := ((x3 - (1 : Int32)).toNatClampNeg)) rfl
          have w8 : WT (uI m (134 + 5) x3.toNatClampNeg (m.1 (134 + 5) ((x3 - (1 : Int32)).toNatClampNeg))) := w.t rfl (by show (0 : Int) ≤ ((m.1 (134 + 5) ((x3 - (1 : Int32)).toNatClampNeg))).toInt; first | omega | decide) (by show ((m.1 (134 + 5) ((x3 - (1 : Int32)).toNatClampNeg))).toInt ≤ 7; first | omega | decide)
          have f8 : Fx (RS [7]) m0 (uI m (134 + 5) x3.toNatClampNeg (m.1 (134 + 5) ((x3 - (1 : Int32)).toNatClampNeg))) := f.i rfl
          have t10 := ti_add (x := x3) (y := (-1 : Int32)) (by omega)
          have r11 := w.at (a := 134) (k := 5) rfl
          exact ih _ _ _ w8 f8 (by show (0 : Int) ≤ (x2).toInt; omega) (by show (x2).toInt ≤ (7 : Int); omega) (by show (1 : Int) ≤ ((x3 + (-1 : Int32))).toInt; omega) (by show ((x3 + (-1 : Int32))).toInt ≤ (7 : Int); omega) (by show ((m.1 134 5)).toInt = (m0.1 134 5).toInt; omega) (by omega)
set_option maxHeartbeats 4000000 in
theorem s_X3_turnPlaces_134 {ad : Nat → Nat} {d : Nat} {m : Wm} {x1 : Int32} (w : WT m) (i1 : (2 : Int) ≤ x1.toInt) (i2 : x1.toInt ≤ (8 : Int)) : Ct ad μX3_turnPlaces d [.ref (ad 134), .int x1] m (fun r m' => WT m' ∧ Fx (RS [7]) m m' ∧ r = none ∧ ((m'.1 134 5).toInt = (m.1 134 5).toInt)) := by
  have f : Fx (RS [7]) m m := Fx.rf
  refine v_X3_turnPlaces Pl_134 ?_
  have tl1 : (1 : Int32).toInt = 1 := rfl
  refine ⟨?_, ?_⟩
  · have t1 := ti_sub (x := x1) (y := (1 : Int32)) (by omega)
    exact vpi (by omega) (by omega)
  · have r2 := w.at (a := (134 + 5)) (k := ((x1 - (1 : Int32)).toNatClampNeg)) rfl
    have t3 := ti_sub (x := x1) (y := (1 : Int32)) (by omega)
    have r4 := w.at (a := 134) (k := 5) rfl
    exact (l_X3_turnPlaces_134 (m0 := m) 1000000) _ _ _ w f (by show (0 : Int) ≤ ((m.1 (134 + 5) ((x1 - (1 : Int32)).toNatClampNeg))).toInt; omega) (by show ((m.1 (134 + 5) ((x1 - (1 : Int32)).toNatClampNeg))).toInt ≤ (7 : Int); omega) (by show (1 : Int) ≤ ((x1 - (1 : Int32))).toInt; omega) (by show ((x1 - (1 : Int32))).toInt ≤ (7 : Int); omega) (by show ((m.1 134 5)).toInt = (m0.1 134 5).toInt; omega) (by show ((x1 - (1 : Int32))).toInt + 0 < _; omega)
set_option maxHeartbeats 4000000 in
theorem l_X3_turnPlaces_140 {ad : Nat → Nat} {d : Nat} {m0 : Wm}  : ∀ n : Nat, (∀ (m : Wm) (x2 x3 : Int32), WT m → Fx (RS [7]) m0 m → (0 : Int) ≤ x2.toInt → x2.toInt ≤ (7 : Int) → (1 : Int) ≤ x3.toInt → x3.toInt ≤ (7 : Int) → ((m.1 140 5).toInt = (m0.1 140 5).toInt) → x3.toInt + 0 < (n : Int) → AW ad E0 μX3_turnPlaces d (fun r m' => WT m' ∧ Fx (RS [7]) m0 m' ∧ r = none ∧ ((m'.1 140 5).toInt = (m0.1 140 5).toInt)) 13 [(0, .ref (ad 140)), (2, .int x2), (3, .int x3)] [] m) := by
  intro n
  induction n with
  | zero =>
    intros
    exfalso
    omega
  | succ n ih =>
    intro m x2 x3 w f j1 j2 j3 j4 j5 hn
    refine g_X3_turnPlaces_13 Pl_140 ?_
    have tl1 : (1 : Int32).toInt = 1 := rfl
    have tlm1 : (-1 : Int32).toInt = -1 := rfl
    refine ⟨?_, ?_⟩
    · intro c1
      have k2 := z_le c1
      have w3 : WT (uI m (140 + 5) ((1 : Int32).toNatClampNeg) x2) := w.t rfl (by show (0 : Int) ≤ (x2).toInt; first | omega | decide) (by show (x2).toInt ≤ 7; first | omega | decide)
      have f3 : Fx (RS [7]) m0 (uI m (140 + 5) ((1 : Int32).toNatClampNeg) x2) := f.i rfl
      have r4 := w.at (a := 140) (k := 5) rfl
      exact ⟨w3, f3, rfl, (by show ((m.1 140 5)).toInt = (m0.1 140 5).toInt; omega)⟩
    · intro c5
      have k6 := z_nle c5
      refine ⟨?_, ?_⟩
      · have t7 := ti_sub (x := x3) (y := (1 : Int32)) (by omega)
        exact vpi (by omega) (by omega)
      · refine ⟨?_, ?_⟩
        · exact vpi (by omega) (by omega)
        · have r9 := w.at (a := (140 + 5)) (k := ((x3 - (1 : Int32)).toNatClampNeg)) rfl
          have w8 : WT (uI m (140 + 5) x3.toNatClampNeg (m.1 (140 + 5) ((x3 - (1 : Int32)).toNatClampNeg))) := w.t rfl (by show (0 : Int) ≤ ((m.1 (140 + 5) ((x3 - (1 : Int32)).toNatClampNeg))).toInt; first | omega | decide) (by show ((m.1 (140 + 5) ((x3 - (1 : Int32)).toNatClampNeg))).toInt ≤ 7; first | omega | decide)
          have f8 : Fx (RS [7]) m0 (uI m (140 + 5) x3.toNatClampNeg (m.1 (140 + 5) ((x3 - (1 : Int32)).toNatClampNeg))) := f.i rfl
          have t10 := ti_add (x := x3) (y := (-1 : Int32)) (by omega)
          have r11 := w.at (a := 140) (k := 5) rfl
          exact ih _ _ _ w8 f8 (by show (0 : Int) ≤ (x2).toInt; omega) (by show (x2).toInt ≤ (7 : Int); omega) (by show (1 : Int) ≤ ((x3 + (-1 : Int32))).toInt; omega) (by show ((x3 + (-1 : Int32))).toInt ≤ (7 : Int); omega) (by show ((m.1 140 5)).toInt = (m0.1 140 5).toInt; omega) (by omega)
set_option maxHeartbeats 4000000 in
theorem s_X3_turnPlaces_140 {ad : Nat → Nat} {d : Nat} {m : Wm} {x1 : Int32} (w : WT m) (i1 : (2 : Int) ≤ x1.toInt) (i2 : x1.toInt ≤ (8 : Int)) : Ct ad μX3_turnPlaces d [.ref (ad 140), .int x1] m (fun r m' => WT m' ∧ Fx (RS [7]) m m' ∧ r = none ∧ ((m'.1 140 5).toInt = (m.1 140 5).toInt)) := by
  have f : Fx (RS [7]) m m := Fx.rf
  refine v_X3_turnPlaces Pl_140 ?_
  have tl1 : (1 : Int32).toInt = 1 := rfl
  refine ⟨?_, ?_⟩
  · have t1 := ti_sub (x := x1) (y := (1 : Int32)) (by omega)
    exact vpi (by omega) (by omega)
  · have r2 := w.at (a := (140 + 5)) (k := ((x1 - (1 : Int32)).toNatClampNeg)) rfl
    have t3 := ti_sub (x := x1) (y := (1 : Int32)) (by omega)
    have r4 := w.at (a := 140) (k := 5) rfl
    exact (l_X3_turnPlaces_140 (m0 := m) 1000000) _ _ _ w f (by show (0 : Int) ≤ ((m.1 (140 + 5) ((x1 - (1 : Int32)).toNatClampNeg))).toInt; omega) (by show ((m.1 (140 + 5) ((x1 - (1 : Int32)).toNatClampNeg))).toInt ≤ (7 : Int); omega) (by show (1 : Int) ≤ ((x1 - (1 : Int32))).toInt; omega) (by show ((x1 - (1 : Int32))).toInt ≤ (7 : Int); omega) (by show ((m.1 140 5)).toInt = (m0.1 140 5).toInt; omega) (by show ((x1 - (1 : Int32))).toInt + 0 < _; omega)
theorem s_X3_turnPlaces {ad : Nat → Nat} {d : Nat} {m : Wm} {b0 : Nat} {x1 : Int32} (w : WT m) (hb0 : b0 = 134 ∨ b0 = 140) (i1 : (2 : Int) ≤ x1.toInt) (i2 : x1.toInt ≤ (8 : Int)) : Ct ad μX3_turnPlaces d [.ref (ad b0), .int x1] m (fun r m' => WT m' ∧ Fx (RS [7]) m m' ∧ r = none ∧ ((m'.1 b0 5).toInt = (m.1 b0 5).toInt)) := by
  rcases hb0 with rfl | rfl
  · exact s_X3_turnPlaces_134 w i1 i2
  · exact s_X3_turnPlaces_140 w i1 i2
set_option maxHeartbeats 4000000 in
theorem l_X3_fillEachWithEach_134 {ad : Nat → Nat} {d : Nat} {m0 : Wm}  : ∀ n : Nat, (∀ (m : Wm) (x1 x2 x3 : Int32), WT m → Fx (RS [7]) m0 m → (0 : Int) ≤ x1.toInt → x1.toInt ≤ (8 : Int) → (0 : Int) ≤ x2.toInt → x2.toInt ≤ (8 : Int) → (0 : Int) ≤ x3.toInt → x3.toInt ≤ (8 : Int) → ((m.1 134 5).toInt = 0) → 2000 - x3.toInt < (n : Int) → AW ad E0 μX3_fillEachWithEach (d + 1) (fun r m' => WT m' ∧ Fx (RS [7]) m0 m' ∧ r = none) 17 [(0, .ref (ad 134)), (1, .int x1), (2, .int x2), (3, .int x3)] [] m) ∧ (∀ (m : Wm) (x1 x2 x3 : Int32), WT m → Fx (RS [7]) m0 m → (0 : Int) ≤ x1.toInt → x1.toInt ≤ (8 : Int) → (0 : Int) ≤ x2.toInt → x2.toInt ≤ (8 : Int) → (0 : Int) ≤ x3.toInt → x3.toInt ≤ (8 : Int) → ((m.1 134 5).toInt = x3.toInt) → (8 - x3.toInt) * 100 + 50 < (n : Int) → AW ad E0 μX3_fillEachWithEach (d + 1) (fun r m' => WT m' ∧ Fx (RS [7]) m0 m' ∧ r = none) 37 [(0, .ref (ad 134)), (1, .int x1), (2, .int x2), (3, .int x3)] [] m) ∧ (∀ (m : Wm) (x1 x2 x3 x4 : Int32), WT m → Fx (RS [7]) m0 m → (0 : Int) ≤ x1.toInt → x1.toInt ≤ (8 : Int) → (2 : Int) ≤ x2.toInt → x2.toInt ≤ (8 : Int) → (0 : Int) ≤ x3.toInt → x3.toInt ≤ (7 : Int) → (0 : Int) ≤ x4.toInt → x4.toInt ≤ (8 : Int) → ((m.1 134 5).toInt = x3.toInt + 1) → (x3.toInt + 1 < x2.toInt) → (8 - x3.toInt) * 100 + 10 - x4.toInt < (n : Int) → AW ad E0 μX3_fillEachWithEach (d + 1) (fun r m' => WT m' ∧ Fx (RS [7]) m0 m' ∧ r = none) 51 [(0, .ref (ad 134)), (1, .int x1), (2, .int x2), (3, .int x3), (4, .int x4)] [] m) := by
  intro n
  induction n with
  | zero =>
    refine ⟨?_, ?_, ?_⟩ <;> intros <;> exfalso <;> omega
  | succ n ih =>
    refine ⟨?_, ?_, ?_⟩
    · intro m x1 x2 x3 w f j1 j2 j3 j4 j5 j6 j7 hn
      refine g_X3_fillEachWithEach_17 Pl_134 ?_
      have tl1 : (1 : Int32).toInt = 1 := rfl
      have tl0 : (0 : Int32).toInt = 0 := rfl
      refine ⟨?_, ?_⟩
      · intro c1
        have k2 := z_le c1
        have r3 := w.at (a := 134) (k := 5) rfl
        exact ih.2.1 _ _ _ _ w f (by show (0 : Int) ≤ (x1).toInt; omega) (by show (x1).toInt ≤ (8 : Int); omega) (by show (0 : Int) ≤ (x2).toInt; omega) (by show (x2).toInt ≤ (8 : Int); omega) (by show (0 : Int) ≤ ((0 : Int32)).toInt; omega) (by show ((0 : Int32)).toInt ≤ (8 : Int); omega) (by show ((m.1 134 5)).toInt = ((0 : Int32)).toInt; omega) (by omega)
      · intro c4
        have k5 := z_nle c4
        refine ⟨?_, ?_⟩
        · exact vpi (by omega) (by omega)
        · have w6 : WT (uI m (134 + 5) x3.toNatClampNeg x3) := w.t rfl (by show (0 : Int) ≤ (x3).toInt; first | omega | decide) (by show (x3).toInt ≤ 7; first | omega | decide)
          have f6 : Fx (RS [7]) m0 (uI m (134 + 5) x3.toNatClampNeg x3) := f.i rfl
          have t7 := ti_add (x := x3) (y := (1 : Int32)) (by omega)
          have r8 := w.at (a := 134) (k := 5) rfl
          exact ih.1 _ _ _ _ w6 f6 (by show (0 : Int) ≤ (x1).toInt; omega) (by show (x1).toInt ≤ (8 : Int); omega) (by show (0 : Int) ≤ (x2).toInt; omega) (by show (x2).toInt ≤ (8 : Int); omega) (by show (0 : Int) ≤ ((x3 + (1 : Int32))).toInt; omega) (by show ((x3 + (1 : Int32))).toInt ≤ (8 : Int); omega) (by show ((m.1 134 5)).toInt = 0; omega) (by omega)
    · intro m x1 x2 x3 w f j1 j2 j3 j4 j5 j6 j7 hn
      refine g_X3_fillEachWithEach_37 Pl_134 ?_
      have tl1 : (1 : Int32).toInt = 1 := rfl
      have tl0 : (0 : Int32).toInt = 0 := rfl
      refine ⟨?_, ?_⟩
      · intro c1
        have t2 := ti_sub (x := x2) (y := (1 : Int32)) (by omega)
        have k3 := z_le c1
        exact ⟨w, f, rfl⟩
      · intro c4
        have t5 := ti_sub (x := x2) (y := (1 : Int32)) (by omega)
        have k6 := z_nle c4
        have r7 := w.at (a := 134) (k := 5) rfl
        refine (s_X3_openRound w (Or.inl rfl) (by show ((m.1 134 5)).toInt ≤ 12; omega)).to ?_
        rintro _ m1 ⟨w_m1, g8, rfl, p9, p10⟩
        have f_m1 : Fx (RS [7]) m0 m1 := f.tr g8 (RS_sub rfl)
        have p11 : (m1.1 134 5).toInt = ((m.1 134 5)).toInt + 1 := p9
        have p12 : (m1.1 134 7).toInt = 0 := p10
        refine ⟨rfl, ?_⟩
        have r13 := w_m1.at (a := 134) (k := 5) rfl
        exact ih.2.2 _ _ _ _ _ w_m1 f_m1 (by show (0 : Int) ≤ (x1).toInt; omega) (by show (x1).toInt ≤ (8 : Int); omega) (by show (2 : Int) ≤ (x2).toInt; omega) (by show (x2).toInt ≤ (8 : Int); omega) (by show (0 : Int) ≤ (x3).toInt; omega) (by show (x3).toInt ≤ (7 : Int); omega) (by show (0 : Int) ≤ ((0 : Int32)).toInt; omega) (by show ((0 : Int32)).toInt ≤ (8 : Int); omega) (by show ((m1.1 134 5)).toInt = (x3).toInt + 1; omega) (by show (x3).toInt + 1 < (x2).toInt; omega) (by omega)
    · intro m x1 x2 x3 x4 w f j1 j2 j3 j4 j5 j6 j7 j8 j9 j10 hn
      refine g_X3_fillEachWithEach_51 Pl_134 ?_
      have tl1 : (1 : Int32).toInt = 1 := rfl
      have tl0 : (0 : Int32).toInt = 0 := rfl
      refine ⟨?_, ?_⟩
      · intro c1
        have t2 := t_div (x := x2) (y := (2 : Int32)) (c := 2) rfl (by decide) (by decide) (by omega)
        have k3 := z_le c1
        refine (s_X3_turnPlaces w (Or.inl rfl) (by show (2 : Int) ≤ (x2).toInt; omega) (by show (x2).toInt ≤ (8 : Int); omega)).to ?_
        rintro _ m1 ⟨w_m1, g4, rfl, p5⟩
        have f_m1 : Fx (RS [7]) m0 m1 := f.tr g4 (RS_sub rfl)
        have p6 : (m1.1 134 5).toInt = ((m.1 134 5)).toInt := p5
        refine ⟨rfl, ?_⟩
        have t7 := ti_add (x := x3) (y := (1 : Int32)) (by omega)
        have r8 := w_m1.at (a := 134) (k := 5) rfl
        exact ih.2.1 _ _ _ _ w_m1 f_m1 (by show (0 : Int) ≤ (x1).toInt; omega) (by show (x1).toInt ≤ (8 : Int); omega) (by show (0 : Int) ≤ (x2).toInt; omega) (by show (x2).toInt ≤ (8 : Int); omega) (by show (0 : Int) ≤ ((x3 + (1 : Int32))).toInt; omega) (by show ((x3 + (1 : Int32))).toInt ≤ (8 : Int); omega) (by show ((m1.1 134 5)).toInt = ((x3 + (1 : Int32))).toInt; omega) (by omega)
      · intro c9
        have t10 := t_div (x := x2) (y := (2 : Int32)) (c := 2) rfl (by decide) (by decide) (by omega)
        have k11 := z_nle c9
        refine ⟨?_, ?_⟩
        · exact vpi (by omega) (by omega)
        · refine ⟨?_, ?_⟩
          · have t12 := ti_sub (x := x2) (y := (1 : Int32)) (by omega)
            have t13 := ti_sub (x := (x2 - (1 : Int32))) (y := x4) (by omega)
            exact vpi (by omega) (by omega)
          · refine ⟨?_, ?_⟩
            · intro c14
              have r15 := w.at (a := (134 + 5)) (k := x4.toNatClampNeg) rfl
              have k16 := z_le c14
              have t17 := ti_add (x := x4) (y := (1 : Int32)) (by omega)
              have r18 := w.at (a := 134) (k := 5) rfl
              exact ih.2.2 _ _ _ _ _ w f (by show (0 : Int) ≤ (x1).toInt; omega) (by show (x1).toInt ≤ (8 : Int); omega) (by show (2 : Int) ≤ (x2).toInt; omega) (by show (x2).toInt ≤ (8 : Int); omega) (by show (0 : Int) ≤ (x3).toInt; omega) (by show (x3).toInt ≤ (7 : Int); omega) (by show (0 : Int) ≤ ((x4 + (1 : Int32))).toInt; omega) (by show ((x4 + (1 : Int32))).toInt ≤ (8 : Int); omega) (by show ((m.1 134 5)).toInt = (x3).toInt + 1; omega) (by show (x3).toInt + 1 < (x2).toInt; omega) (by omega)
            · intro c19
              have r20 := w.at (a := (134 + 5)) (k := x4.toNatClampNeg) rfl
              have k21 := z_nle c19
              refine ⟨?_, ?_⟩
              · intro c22
                have r23 := w.at (a := (134 + 5)) (k := (((x2 - (1 : Int32)) - x4).toNatClampNeg)) rfl
                have k24 := z_le c22
                have t25 := ti_add (x := x4) (y := (1 : Int32)) (by omega)
                have r26 := w.at (a := 134) (k := 5) rfl
                exact ih.2.2 _ _ _ _ _ w f (by show (0 : Int) ≤ (x1).toInt; omega) (by show (x1).toInt ≤ (8 : Int); omega) (by show (2 : Int) ≤ (x2).toInt; omega) (by show (x2).toInt ≤ (8 : Int); omega) (by show (0 : Int) ≤ (x3).toInt; omega) (by show (x3).toInt ≤ (7 : Int); omega) (by show (0 : Int) ≤ ((x4 + (1 : Int32))).toInt; omega) (by show ((x4 + (1 : Int32))).toInt ≤ (8 : Int); omega) (by show ((m.1 134 5)).toInt = (x3).toInt + 1; omega) (by show (x3).toInt + 1 < (x2).toInt; omega) (by omega)
              · intro c27
                have r28 := w.at (a := (134 + 5)) (k := (((x2 - (1 : Int32)) - x4).toNatClampNeg)) rfl
                have k29 := z_nle c27
                refine (s_X3_addGame w (Or.inl rfl) (by show (0 : Int) ≤ ((m.1 (134 + 5) x4.toNatClampNeg)).toInt; omega) (by show ((m.1 (134 + 5) x4.toNatClampNeg)).toInt ≤ (7 : Int); omega) (by show (0 : Int) ≤ ((m.1 (134 + 5) (((x2 - (1 : Int32)) - x4).toNatClampNeg))).toInt; omega) (by show ((m.1 (134 + 5) (((x2 - (1 : Int32)) - x4).toNatClampNeg))).toInt ≤ (7 : Int); omega)).to ?_
                rintro _ m2 ⟨w_m2, g30, rfl, p31⟩
                have f_m2 : Fx (RS [7]) m0 m2 := f.tr g30 (RS_sub rfl)
                have p32 : (m2.1 134 5).toInt = ((m.1 134 5)).toInt := p31
                refine ⟨rfl, ?_⟩
                have t33 := ti_add (x := x4) (y := (1 : Int32)) (by omega)
                have r34 := w_m2.at (a := 134) (k := 5) rfl
                exact ih.2.2 _ _ _ _ _ w_m2 f_m2 (by show (0 : Int) ≤ (x1).toInt; omega) (by show (x1).toInt ≤ (8 : Int); omega) (by show (2 : Int) ≤ (x2).toInt; omega) (by show (x2).toInt ≤ (8 : Int); omega) (by show (0 : Int) ≤ (x3).toInt; omega) (by show (x3).toInt ≤ (7 : Int); omega) (by show (0 : Int) ≤ ((x4 + (1 : Int32))).toInt; omega) (by show ((x4 + (1 : Int32))).toInt ≤ (8 : Int); omega) (by show ((m2.1 134 5)).toInt = (x3).toInt + 1; omega) (by show (x3).toInt + 1 < (x2).toInt; omega) (by omega)
set_option maxHeartbeats 4000000 in
theorem s_X3_fillEachWithEach_134 {ad : Nat → Nat} {d : Nat} {m : Wm} {x1 : Int32} (w : WT m) (i1 : (0 : Int) ≤ x1.toInt) (i2 : x1.toInt ≤ (8 : Int)) : Ct ad μX3_fillEachWithEach (d + 1) [.ref (ad 134), .int x1] m (fun r m' => WT m' ∧ Fx (RS [7]) m m' ∧ r = none) := by
  have f : Fx (RS [7]) m m := Fx.rf
  refine v_X3_fillEachWithEach Pl_134 ?_
  have tl8 : (8 : Int32).toInt = 8 := rfl
  have tl0 : (0 : Int32).toInt = 0 := rfl
  refine (s_X3_clear w (Or.inl rfl)).to ?_
  rintro _ m1 ⟨w_m1, g1, rfl, p2⟩
  have f_m1 : Fx (RS [7]) m m1 := f.tr g1 (RS_sub rfl)
  have p3 : (m1.1 134 5).toInt = 0 := p2
  refine ⟨rfl, ?_⟩
  have t4 := t_and1 x1
  have t5 := ti_add (x := x1) (y := (x1 &&& (1 : Int32))) (by omega)
  have t6 := ti_lt (8 : Int32) (x1 + (x1 &&& (1 : Int32))) (8 : Int32) (x1 + (x1 &&& (1 : Int32)))
  have r7 := w_m1.at (a := 134) (k := 5) rfl
  exact (l_X3_fillEachWithEach_134 (m0 := m) 1000000).1 _ _ _ _ w_m1 f_m1 (by show (0 : Int) ≤ (x1).toInt; omega) (by show (x1).toInt ≤ (8 : Int); omega) (by show (0 : Int) ≤ ((if (8 : Int32) < (x1 + (x1 &&& (1 : Int32))) then (8 : Int32) else (x1 + (x1 &&& (1 : Int32))))).toInt; omega) (by show ((if (8 : Int32) < (x1 + (x1 &&& (1 : Int32))) then (8 : Int32) else (x1 + (x1 &&& (1 : Int32))))).toInt ≤ (8 : Int); omega) (by show (0 : Int) ≤ ((0 : Int32)).toInt; omega) (by show ((0 : Int32)).toInt ≤ (8 : Int); omega) (by show ((m1.1 134 5)).toInt = 0; omega) (by show 2000 - ((0 : Int32)).toInt < _; omega)
set_option maxHeartbeats 4000000 in
theorem l_X3_fillEachWithEach_140 {ad : Nat → Nat} {d : Nat} {m0 : Wm}  : ∀ n : Nat, (∀ (m : Wm) (x1 x2 x3 : Int32), WT m → Fx (RS [7]) m0 m → (0 : Int) ≤ x1.toInt → x1.toInt ≤ (8 : Int) → (0 : Int) ≤ x2.toInt → x2.toInt ≤ (8 : Int) → (0 : Int) ≤ x3.toInt → x3.toInt ≤ (8 : Int) → ((m.1 140 5).toInt = 0) → 2000 - x3.toInt < (n : Int) → AW ad E0 μX3_fillEachWithEach (d + 1) (fun r m' => WT m' ∧ Fx (RS [7]) m0 m' ∧ r = none) 17 [(0, .ref (ad 140)), (1, .int x1), (2, .int x2), (3, .int x3)] [] m) ∧ (∀ (m : Wm) (x1 x2 x3 : Int32), WT m → Fx (RS [7]) m0 m → (0 : Int) ≤ x1.toInt → x1.toInt ≤ (8 : Int) → (0 : Int) ≤ x2.toInt → x2.toInt ≤ (8 : Int) → (0 : Int) ≤ x3.toInt → x3.toInt ≤ (8 : Int) → ((m.1 140 5).toInt = x3.toInt) → (8 - x3.toInt) * 100 + 50 < (n : Int) → AW ad E0 μX3_fillEachWithEach (d + 1) (fun r m' => WT m' ∧ Fx (RS [7]) m0 m' ∧ r = none) 37 [(0, .ref (ad 140)), (1, .int x1), (2, .int x2), (3, .int x3)] [] m) ∧ (∀ (m : Wm) (x1 x2 x3 x4 : Int32), WT m → Fx (RS [7]) m0 m → (0 : Int) ≤ x1.toInt → x1.toInt ≤ (8 : Int) → (2 : Int) ≤ x2.toInt → x2.toInt ≤ (8 : Int) → (0 : Int) ≤ x3.toInt → x3.toInt ≤ (7 : Int) → (0 : Int) ≤ x4.toInt → x4.toInt ≤ (8 : Int) → ((m.1 140 5).toInt = x3.toInt + 1) → (x3.toInt + 1 < x2.toInt) → (8 - x3.toInt) * 100 + 10 - x4.toInt < (n : Int) → AW ad E0 μX3_fillEachWithEach (d + 1) (fun r m' => WT m' ∧ Fx (RS [7]) m0 m' ∧ r = none) 51 [(0, .ref (ad 140)), (1, .int x1), (2, .int x2), (3, .int x3), (4, .int x4)] [] m) := by
  intro n
  induction n with
  | zero =>
    refine ⟨?_, ?_, ?_⟩ <;> intros <;> exfalso <;> omega
  | succ n ih =>
    refine ⟨?_, ?_, ?_⟩
    · intro m x1 x2 x3 w f j1 j2 j3 j4 j5 j6 j7 hn
      refine g_X3_fillEachWithEach_17 Pl_140 ?_
      have tl1 : (1 : Int32).toInt = 1 := rfl
      have tl0 : (0 : Int32).toInt = 0 := rfl
      refine ⟨?_, ?_⟩
      · intro c1
        have k2 := z_le c1
        have r3 := w.at (a := 140) (k := 5) rfl
        exact ih.2.1 _ _ _ _ w f (by show (0 : Int) ≤ (x1).toInt; omega) (by show (x1).toInt ≤ (8 : Int); omega) (by show (0 : Int) ≤ (x2).toInt; omega) (by show (x2).toInt ≤ (8 : Int); omega) (by show (0 : Int) ≤ ((0 : Int32)).toInt; omega) (by show ((0 : Int32)).toInt ≤ (8 : Int); omega) (by show ((m.1 140 5)).toInt = ((0 : Int32)).toInt; omega) (by omega)
      · intro c4
        have k5 := z_nle c4
        refine ⟨?_, ?_⟩
        · exact vpi (by omega) (by omega)
        · have w6 : WT (uI m (140 + 5) x3.toNatClampNeg x3) := w.t rfl (by show (0 : Int) ≤ (x3).toInt; first | omega | decide) (by show (x3).toInt ≤ 7; first | omega | decide)
          have f6 : Fx (RS [7]) m0 (uI m (140 + 5) x3.toNatClampNeg x3) := f.i rfl
          have t7 := ti_add (x := x3) (y := (1 : Int32)) (by omega)
          have r8 := w.at (a := 140) (k := 5) rfl
          exact ih.1 _ _ _ _ w6 f6 (by show (0 : Int) ≤ (x1).toInt; omega) (by show (x1).toInt ≤ (8 : Int); omega) (by show (0 : Int) ≤ (x2).toInt; omega) (by show (x2).toInt ≤ (8 : Int); omega) (by show (0 : Int) ≤ ((x3 + (1 : Int32))).toInt; omega) (by show ((x3 + (1 : Int32))).toInt ≤ (8 : Int); omega) (by show ((m.1 140 5)).toInt = 0; omega) (by omega)
    · intro m x1 x2 x3 w f j1 j2 j3 j4 j5 j6 j7 hn
      refine g_X3_fillEachWithEach_37 Pl_140 ?_
      have tl1 : (1 : Int32).toInt = 1 := rfl
      have tl0 : (0 : Int32).toInt = 0 := rfl
      refine ⟨?_, ?_⟩
      · intro c1
        have t2 := ti_sub (x := x2) (y := (1 : Int32)) (by omega)
        have k3 := z_le c1
        exact ⟨w, f, rfl⟩
      · intro c4
        have t5 := ti_sub (x := x2) (y := (1 : Int32)) (by omega)
        have k6 := z_nle c4
        have r7 := w.at (a := 140) (k := 5) rfl
        refine (s_X3_openRound w (Or.inr rfl) (by show ((m.1 140 5)).toInt ≤ 12; omega)).to ?_
        rintro _ m1 ⟨w_m1, g8, rfl, p9, p10⟩
        have f_m1 : Fx (RS [7]) m0 m1 := f.tr g8 (RS_sub rfl)
        have p11 : (m1.1 140 5).toInt = ((m.1 140 5)).toInt + 1 := p9
        have p12 : (m1.1 140 7).toInt = 0 := p10
        refine ⟨rfl, ?_⟩
        have r13 := w_m1.at (a := 140) (k := 5) rfl
        exact ih.2.2 _ _ _ _ _ w_m1 f_m1 (by show (0 : Int) ≤ (x1).toInt; omega) (by show (x1).toInt ≤ (8 : Int); omega) (by show (2 : Int) ≤ (x2).toInt; omega) (by show (x2).toInt ≤ (8 : Int); omega) (by show (0 : Int) ≤ (x3).toInt; omega) (by show (x3).toInt ≤ (7 : Int); omega) (by show (0 : Int) ≤ ((0 : Int32)).toInt; omega) (by show ((0 : Int32)).toInt ≤ (8 : Int); omega) (by show ((m1.1 140 5)).toInt = (x3).toInt + 1; omega) (by show (x3).toInt + 1 < (x2).toInt; omega) (by omega)
    · intro m x1 x2 x3 x4 w f j1 j2 j3 j4 j5 j6 j7 j8 j9 j10 hn
      refine g_X3_fillEachWithEach_51 Pl_140 ?_
      have tl1 : (1 : Int32).toInt = 1 := rfl
      have tl0 : (0 : Int32).toInt = 0 := rfl
      refine ⟨?_, ?_⟩
      · intro c1
        have t2 := t_div (x := x2) (y := (2 : Int32)) (c := 2) rfl (by decide) (by decide) (by omega)
        have k3 := z_le c1
        refine (s_X3_turnPlaces w (Or.inr rfl) (by show (2 : Int) ≤ (x2).toInt; omega) (by show (x2).toInt ≤ (8 : Int); omega)).to ?_
        rintro _ m1 ⟨w_m1, g4, rfl, p5⟩
        have f_m1 : Fx (RS [7]) m0 m1 := f.tr g4 (RS_sub rfl)
        have p6 : (m1.1 140 5).toInt = ((m.1 140 5)).toInt := p5
        refine ⟨rfl, ?_⟩
        have t7 := ti_add (x := x3) (y := (1 : Int32)) (by omega)
        have r8 := w_m1.at (a := 140) (k := 5) rfl
        exact ih.2.1 _ _ _ _ w_m1 f_m1 (by show (0 : Int) ≤ (x1).toInt; omega) (by show (x1).toInt ≤ (8 : Int); omega) (by show (0 : Int) ≤ (x2).toInt; omega) (by show (x2).toInt ≤ (8 : Int); omega) (by show (0 : Int) ≤ ((x3 + (1 : Int32))).toInt; omega) (by show ((x3 + (1 : Int32))).toInt ≤ (8 : Int); omega) (by show ((m1.1 140 5)).toInt = ((x3 + (1 : Int32))).toInt; omega) (by omega)
      · intro c9
        have t10 := t_div (x := x2) (y := (2 : Int32)) (c := 2) rfl (by decide) (by decide) (by omega)
        have k11 := z_nle c9
        refine ⟨?_, ?_⟩
        · exact vpi (by omega) (by omega)
        · refine ⟨?_, ?_⟩
          · have t12 := ti_sub (x := x2) (y := (1 : Int32)) (by omega)
            have t13 := ti_sub (x := (x2 - (1 : Int32))) (y := x4) (by omega)
            exact vpi (by omega) (by omega)
          · refine ⟨?_, ?_⟩
            · intro c14
              have r15 := w.at (a := (140 + 5)) (k := x4.toNatClampNeg) rfl
              have k16 := z_le c14
              have t17 := ti_add (x := x4) (y := (1 : Int32)) (by omega)
              have r18 := w.at (a := 140) (k := 5) rfl
              exact ih.2.2 _ _ _ _ _ w f (by show (0 : Int) ≤ (x1).toInt; omega) (by show (x1).toInt ≤ (8 : Int); omega) (by show (2 : Int) ≤ (x2).toInt; omega) (by show (x2).toInt ≤ (8 : Int); omega) (by show (0 : Int) ≤ (x3).toInt; omega) (by show (x3).toInt ≤ (7 : Int); omega) (by show (0 : Int) ≤ ((x4 + (1 : Int32))).toInt; omega) (by show ((x4 + (1 : Int32))).toInt ≤ (8 : Int); omega) (by show ((m.1 140 5)).toInt = (x3).toInt + 1; omega) (by show (x3).toInt + 1 < (x2).toInt; omega) (by omega)
            · intro c19
              have r20 := w.at (a := (140 + 5)) (k := x4.toNatClampNeg) rfl
              have k21 := z_nle c19
              refine ⟨?_, ?_⟩
              · intro c22
                have r23 := w.at (a := (140 + 5)) (k := (((x2 - (1 : Int32)) - x4).toNatClampNeg)) rfl
                have k24 := z_le c22
                have t25 := ti_add (x := x4) (y := (1 : Int32)) (by omega)
                have r26 := w.at (a := 140) (k := 5) rfl
                exact ih.2.2 _ _ _ _ _ w f (by show (0 : Int) ≤ (x1).toInt; omega) (by show (x1).toInt ≤ (8 : Int); omega) (by show (2 : Int) ≤ (x2).toInt; omega) (by show (x2).toInt ≤ (8 : Int); omega) (by show (0 : Int) ≤ (x3).toInt; omega) (by show (x3).toInt ≤ (7 : Int); omega) (by show (0 : Int) ≤ ((x4 + (1 : Int32))).toInt; omega) (by show ((x4 + (1 : Int32))).toInt ≤ (8 : Int); omega) (by show ((m.1 140 5)).toInt = (x3).toInt + 1; omega) (by show (x3).toInt + 1 < (x2).toInt; omega) (by omega)
              · intro c27
                have r28 := w.at (a := (140 + 5)) (k := (((x2 - (1 : Int32)) - x4).toNatClampNeg)) rfl
                have k29 := z_nle c27
                refine (s_X3_addGame w (Or.inr rfl) (by show (0 : Int) ≤ ((m.1 (140 + 5) x4.toNatClampNeg)).toInt; omega) (by show ((m.1 (140 + 5) x4.toNatClampNeg)).toInt ≤ (7 : Int); omega) (by show (0 : Int) ≤ ((m.1 (140 + 5) (((x2 - (1 : Int32)) - x4).toNatClampNeg))).toInt; omega) (by show ((m.1 (140 + 5) (((x2 - (1 : Int32)) - x4).toNatClampNeg))).toInt ≤ (7 : Int); omega)).to ?_
                rintro _ m2 ⟨w_m2, g30, rfl, p31⟩
                have f_m2 : Fx (RS [7]) m0 m2 := f.tr g30 (RS_sub rfl)
                have p32 : (m2.1 140 5).toInt = ((m.1 140 5)).toInt := p31
                refine ⟨rfl, ?_⟩
                have t33 := ti_add (x := x4) (y := (1 : Int32)) (by omega)
                have r34 := w_m2.at (a := 140) (k := 5) rfl
                exact ih.2.2 _ _ _ _ _ w_m2 f_m2 (by show (0 : Int) ≤ (x1).toInt; omega) (by show (x1).toInt ≤ (8 : Int); omega) (by show (2 : Int) ≤ (x2).toInt; omega) (by show (x2).toInt ≤ (8 : Int); omega) (by show (0 : Int) ≤ (x3).toInt; omega) (by show (x3).toInt ≤ (7 : Int); omega) (by show (0 : Int) ≤ ((x4 + (1 : Int32))).toInt; omega) (by show ((x4 + (1 : Int32))).toInt ≤ (8 : Int); omega) (by show ((m2.1 140 5)).toInt = (x3).toInt + 1; omega) (by show (x3).toInt + 1 < (x2).toInt; omega) (by omega)
set_option maxHeartbeats 4000000 in
theorem s_X3_fillEachWithEach_140 {ad : Nat → Nat} {d : Nat} {m : Wm} {x1 : Int32} (w : WT m) (i1 : (0 : Int) ≤ x1.toInt) (i2 : x1.toInt ≤ (8 : Int)) : Ct ad μX3_fillEachWithEach (d + 1) [.ref (ad 140), .int x1] m (fun r m' => WT m' ∧ Fx (RS [7]) m m' ∧ r = none) := by
  have f : Fx (RS [7]) m m := Fx.rf
  refine v_X3_fillEachWithEach Pl_140 ?_
  have tl8 : (8 : Int32).toInt = 8 := rfl
  have tl0 : (0 : Int32).toInt = 0 := rfl
  refine (s_X3_clear w (Or.inr rfl)).to ?_
  rintro _ m1 ⟨w_m1, g1, rfl, p2⟩
  have f_m1 : Fx (RS [7]) m m1 := f.tr g1 (RS_sub rfl)
  have p3 : (m1.1 140 5).toInt = 0 := p2
  refine ⟨rfl, ?_⟩
  have t4 := t_and1 x1
  have t5 := ti_add (x := x1) (y := (x1 &&& (1 : Int32))) (by omega)
  have t6 := ti_lt (8 : Int32) (x1 + (x1 &&& (1 : Int32))) (8 : Int32) (x1 + (x1 &&& (1 : Int32)))
  have r7 := w_m1.at (a := 140) (k := 5) rfl
  exact (l_X3_fillEachWithEach_140 (m0 := m) 1000000).1 _ _ _ _ w_m1 f_m1 (by show (0 : Int) ≤ (x1).toInt; omega) (by show (x1).toInt ≤ (8 : Int); omega) (by show (0 : Int) ≤ ((if (8 : Int32) < (x1 + (x1 &&& (1 : Int32))) then (8 : Int32) else (x1 + (x1 &&& (1 : Int32))))).toInt; omega) (by show ((if (8 : Int32) < (x1 + (x1 &&& (1 : Int32))) then (8 : Int32) else (x1 + (x1 &&& (1 : Int32))))).toInt ≤ (8 : Int); omega) (by show (0 : Int) ≤ ((0 : Int32)).toInt; omega) (by show ((0 : Int32)).toInt ≤ (8 : Int); omega) (by show ((m1.1 140 5)).toInt = 0; omega) (by show 2000 - ((0 : Int32)).toInt < _; omega)
theorem s_X3_fillEachWithEach {ad : Nat → Nat} {d : Nat} {m : Wm} {b0 : Nat} {x1 : Int32} (w : WT m) (hb0 : b0 = 134 ∨ b0 = 140) (i1 : (0 : Int) ≤ x1.toInt) (i2 : x1.toInt ≤ (8 : Int)) : Ct ad μX3_fillEachWithEach (d + 1) [.ref (ad b0), .int x1] m (fun r m' => WT m' ∧ Fx (RS [7]) m m' ∧ r = none) := by
  rcases hb0 with rfl | rfl
  · exact s_X3_fillEachWithEach_134 w i1 i2
  · exact s_X3_fillEachWithEach_140 w i1 i2
set_option maxHeartbeats 4000000 in
theorem s_X4_canEnd {ad : Nat → Nat} {d : Nat} {m : Wm} (w : WT m) : Ct ad μX4_canEnd d [.ref (ad 15)] m (fun r m' => WT m' ∧ Fx (RS []) m m' ∧ ∃ v : Int32, r = some (.int v) ∧ (0 : Int) ≤ v.toInt ∧ v.toInt ≤ 1) := by
  have f : Fx (RS []) m m := Fx.rf
  refine v_X4_canEnd  ?_
  have tl3 : (3 : Int32).toInt = 3 := rfl
  have tl2 : (2 : Int32).toInt = 2 := rfl
  have tl1 : (1 : Int32).toInt = 1 := rfl
  have tl0 : (0 : Int32).toInt = 0 := rfl
  refine ⟨?_, ?_⟩
  · intro c1
    have k2 := z_eq c1
    exact ⟨w, f, _, rfl, (by show (0 : Int) ≤ ((1 : Int32)).toInt; omega), (by show ((1 : Int32)).toInt ≤ 1; omega)⟩
  · intro c3
    have k4 := z_ne c3
    refine ⟨?_, ?_⟩
    · intro c5
      have k6 := z_ne c5
      exact ⟨w, f, _, rfl, (by show (0 : Int) ≤ ((0 : Int32)).toInt; omega), (by show ((0 : Int32)).toInt ≤ 1; omega)⟩
    · intro c7
      have k8 := z_eq c7
      refine ⟨?_, ?_⟩
      · intro c9
        have r10 := w.at (a := 15) (k := 2) rfl
        have k11 := z_ne c9
        exact ⟨w, f, _, rfl, (by show (0 : Int) ≤ ((0 : Int32)).toInt; omega), (by show ((0 : Int32)).toInt ≤ 1; omega)⟩
      · intro c12
        have r13 := w.at (a := 15) (k := 2) rfl
        have k14 := z_eq c12
        exact ⟨w, f, _, rfl, (by show (0 : Int) ≤ ((1 : Int32)).toInt; omega), (by show ((1 : Int32)).toInt ≤ 1; omega)⟩
set_option maxHeartbeats 4000000 in
theorem s_X4_takeSkill {ad : Nat → Nat} {d : Nat} {m : Wm} {x1 : Int32} (w : WT m) : Ct ad μX4_takeSkill (d + 1) [.ref (ad 15), .int x1] m (fun r m' => WT m' ∧ Fx (RS [3]) m m' ∧ ∃ v : Int32, r = some (.int v) ∧ (0 : Int) ≤ v.toInt ∧ v.toInt ≤ 1) := by
  have f : Fx (RS [3]) m m := Fx.rf
  refine v_X4_takeSkill  ?_
  have tl7 : (7 : Int32).toInt = 7 := rfl
  have tl1 : (1 : Int32).toInt = 1 := rfl
  have tl0 : (0 : Int32).toInt = 0 := rfl
  refine ⟨?_, ?_⟩
  · intro c1
    have k2 := z_lt c1
    exact ⟨w, f, _, rfl, (by show (0 : Int) ≤ ((0 : Int32)).toInt; omega), (by show ((0 : Int32)).toInt ≤ 1; omega)⟩
  · intro c3
    have k4 := z_nlt c3
    refine ⟨?_, ?_⟩
    · intro c5
      have k6 := z_le c5
      refine (s_X8_putSkill w SS_16).to ?_
      rintro _ m1 ⟨w_m1, g7, rfl⟩
      have f_m1 : Fx (RS [3]) m m1 := f.tr g7 (RS_sub rfl)
      refine ⟨rfl, ?_⟩
      have w8 : WT (uI m1 15 5 ((m1.1 15 5) + (1 : Int32))) := w_m1.n rfl
      have f8 : Fx (RS [3]) m (uI m1 15 5 ((m1.1 15 5) + (1 : Int32))) := f_m1.i rfl
      exact ⟨w8, f8, _, rfl, (by show (0 : Int) ≤ ((1 : Int32)).toInt; omega), (by show ((1 : Int32)).toInt ≤ 1; omega)⟩
    · intro c9
      have k10 := z_nle c9
      exact ⟨w, f, _, rfl, (by show (0 : Int) ≤ ((0 : Int32)).toInt; omega), (by show ((0 : Int32)).toInt ≤ 1; omega)⟩
set_option maxHeartbeats 4000000 in
theorem s_X4_takeIll {ad : Nat → Nat} {d : Nat} {m : Wm} {x1 : Int32} (w : WT m) : Ct ad μX4_takeIll d [.ref (ad 15), .int x1] m (fun r m' => WT m' ∧ Fx (RS [3]) m m' ∧ ∃ v : Int32, r = some (.int v) ∧ (0 : Int) ≤ v.toInt ∧ v.toInt ≤ 1) := by
  have f : Fx (RS [3]) m m := Fx.rf
  refine v_X4_takeIll  ?_
  have tl33 : (33 : Int32).toInt = 33 := rfl
  have tl1 : (1 : Int32).toInt = 1 := rfl
  have tl0 : (0 : Int32).toInt = 0 := rfl
  refine ⟨?_, ?_⟩
  · intro c1
    have k2 := z_ne c1
    exact ⟨w, f, _, rfl, (by show (0 : Int) ≤ ((0 : Int32)).toInt; omega), (by show ((0 : Int32)).toInt ≤ 1; omega)⟩
  · intro c3
    have k4 := z_eq c3
    refine ⟨?_, ?_⟩
    · intro c5
      have r6 := w.at (a := 15) (k := 1) rfl
      have k7 := z_ne c5
      have w8 : WT (uI m 15 3 ((m.1 15 3) ||| ((1 : Int32) <<< (((m.1 15 1) - (1 : Int32)) &&& 31)))) := w.n rfl
      have f8 : Fx (RS [3]) m (uI m 15 3 ((m.1 15 3) ||| ((1 : Int32) <<< (((m.1 15 1) - (1 : Int32)) &&& 31)))) := f.i rfl
      have w9 : WT (uI (uI m 15 3 ((m.1 15 3) ||| ((1 : Int32) <<< (((m.1 15 1) - (1 : Int32)) &&& 31)))) 15 6 (3 : Int32)) := w8.n rfl
      have f9 : Fx (RS [3]) m (uI (uI m 15 3 ((m.1 15 3) ||| ((1 : Int32) <<< (((m.1 15 1) - (1 : Int32)) &&& 31)))) 15 6 (3 : Int32)) := f8.i rfl
      exact ⟨w9, f9, _, rfl, (by show (0 : Int) ≤ ((1 : Int32)).toInt; omega), (by show ((1 : Int32)).toInt ≤ 1; omega)⟩
    · intro c10
      have r11 := w.at (a := 15) (k := 1) rfl
      have k12 := z_eq c10
      exact ⟨w, f, _, rfl, (by show (0 : Int) ≤ ((0 : Int32)).toInt; omega), (by show ((0 : Int32)).toInt ≤ 1; omega)⟩
set_option maxHeartbeats 4000000 in
theorem l_X4_takeArts {ad : Nat → Nat} {d : Nat} {m0 : Wm}  : ∀ n : Nat, (∀ (m : Wm) (x1 x2 : Int32), WT m → Fx (RS [3]) m0 m → (1 : Int) ≤ x1.toInt → x1.toInt ≤ (4 : Int) → (0 : Int) ≤ x2.toInt → x2.toInt ≤ (8 : Int) → 8 - x2.toInt < (n : Int) → AW ad E0 μX4_takeArts (d + 2) (fun r m' => WT m' ∧ Fx (RS [3]) m0 m' ∧ ∃ v : Int32, r = some (.int v) ∧ (0 : Int) ≤ v.toInt ∧ v.toInt ≤ 1) 14 [(0, .ref (ad 15)), (1, .int x1), (2, .int x2)] [] m) := by
  intro n
  induction n with
  | zero =>
    intros
    exfalso
    omega
  | succ n ih =>
    intro m x1 x2 w f j1 j2 j3 j4 hn
    refine g_X4_takeArts_14  ?_
    have tl8 : (8 : Int32).toInt = 8 := rfl
    have tl1 : (1 : Int32).toInt = 1 := rfl
    have tl0 : (0 : Int32).toInt = 0 := rfl
    refine ⟨?_, ?_⟩
    · intro c1
      have k2 := z_le c1
      have w3 : WT (uI m 15 3 (0 : Int32)) := w.n rfl
      have f3 : Fx (RS [3]) m0 (uI m 15 3 (0 : Int32)) := f.i rfl
      have w4 : WT (uI (uI m 15 3 (0 : Int32)) 15 1 (0 : Int32)) := w3.t rfl (by show (0 : Int) ≤ ((0 : Int32)).toInt; first | omega | decide) (by show ((0 : Int32)).toInt ≤ 8; first | omega | decide)
      have f4 : Fx (RS [3]) m0 (uI (uI m 15 3 (0 : Int32)) 15 1 (0 : Int32)) := f3.i rfl
      have w5 : WT (uI (uI (uI m 15 3 (0 : Int32)) 15 1 (0 : Int32)) 15 2 x1) := w4.t rfl (by show (0 : Int) ≤ (x1).toInt; first | omega | decide) (by show (x1).toInt ≤ 4; first | omega | decide)
      have f5 : Fx (RS [3]) m0 (uI (uI (uI m 15 3 (0 : Int32)) 15 1 (0 : Int32)) 15 2 x1) := f4.i rfl
      have w6 : WT (uI (uI (uI (uI m 15 3 (0 : Int32)) 15 1 (0 : Int32)) 15 2 x1) 15 7 (1 : Int32)) := w5.n rfl
      have f6 : Fx (RS [3]) m0 (uI (uI (uI (uI m 15 3 (0 : Int32)) 15 1 (0 : Int32)) 15 2 x1) 15 7 (1 : Int32)) := f5.i rfl
      have w7 : WT (uI (uI (uI (uI (uI m 15 3 (0 : Int32)) 15 1 (0 : Int32)) 15 2 x1) 15 7 (1 : Int32)) 15 6 (3 : Int32)) := w6.n rfl
      have f7 : Fx (RS [3]) m0 (uI (uI (uI (uI (uI m 15 3 (0 : Int32)) 15 1 (0 : Int32)) 15 2 x1) 15 7 (1 : Int32)) 15 6 (3 : Int32)) := f6.i rfl
      exact ⟨w7, f7, _, rfl, (by show (0 : Int) ≤ ((1 : Int32)).toInt; omega), (by show ((1 : Int32)).toInt ≤ 1; omega)⟩
    · intro c8
      have k9 := z_nle c8
      refine (s_X8_clearSide w SS_16 (by show (0 : Int) ≤ (x2).toInt; omega) (by show (x2).toInt ≤ (7 : Int); omega)).to ?_
      rintro _ m1 ⟨w_m1, g10, rfl⟩
      have f_m1 : Fx (RS [3]) m0 m1 := f.tr g10 (RS_sub rfl)
      refine ⟨rfl, ?_⟩
      have t11 := ti_add (x := x2) (y := (1 : Int32)) (by omega)
      exact ih _ _ _ w_m1 f_m1 (by show (1 : Int) ≤ (x1).toInt; omega) (by show (x1).toInt ≤ (4 : Int); omega) (by show (0 : Int) ≤ ((x2 + (1 : Int32))).toInt; omega) (by show ((x2 + (1 : Int32))).toInt ≤ (8 : Int); omega) (by omega)
set_option maxHeartbeats 4000000 in
theorem s_X4_takeArts {ad : Nat → Nat} {d : Nat} {m : Wm} {x1 : Int32} (w : WT m) : Ct ad μX4_takeArts (d + 2) [.ref (ad 15), .int x1] m (fun r m' => WT m' ∧ Fx (RS [3]) m m' ∧ ∃ v : Int32, r = some (.int v) ∧ (0 : Int) ≤ v.toInt ∧ v.toInt ≤ 1) := by
  have f : Fx (RS [3]) m m := Fx.rf
  refine v_X4_takeArts  ?_
  have tl4 : (4 : Int32).toInt = 4 := rfl
  have tl1 : (1 : Int32).toInt = 1 := rfl
  have tl0 : (0 : Int32).toInt = 0 := rfl
  refine ⟨?_, ?_⟩
  · intro c1
    have k2 := z_lt c1
    exact ⟨w, f, _, rfl, (by show (0 : Int) ≤ ((0 : Int32)).toInt; omega), (by show ((0 : Int32)).toInt ≤ 1; omega)⟩
  · intro c3
    have k4 := z_nlt c3
    refine ⟨?_, ?_⟩
    · intro c5
      have k6 := z_le c5
      exact (l_X4_takeArts (m0 := m) 1000000) _ _ _ w f (by show (1 : Int) ≤ (x1).toInt; omega) (by show (x1).toInt ≤ (4 : Int); omega) (by show (0 : Int) ≤ ((0 : Int32)).toInt; omega) (by show ((0 : Int32)).toInt ≤ (8 : Int); omega) (by show 8 - ((0 : Int32)).toInt < _; omega)
    · intro c7
      have k8 := z_nle c7
      exact ⟨w, f, _, rfl, (by show (0 : Int) ≤ ((0 : Int32)).toInt; omega), (by show ((0 : Int32)).toInt ≤ 1; omega)⟩
set_option maxHeartbeats 4000000 in
theorem s_X4_takeLine {ad : Nat → Nat} {d : Nat} {m : Wm} {x1 : Int32} (w : WT m) : Ct ad μX4_takeLine (d + 2) [.ref (ad 15), .int x1] m (fun r m' => WT m' ∧ Fx (RS [3]) m m' ∧ ∃ v : Int32, r = some (.int v) ∧ (0 : Int) ≤ v.toInt ∧ v.toInt ≤ 1) := by
  have f : Fx (RS [3]) m m := Fx.rf
  refine v_X4_takeLine  ?_
  have tl119 : (119 : Int32).toInt = 119 := rfl
  have tl8 : (8 : Int32).toInt = 8 := rfl
  have tl1 : (1 : Int32).toInt = 1 := rfl
  have tl0 : (0 : Int32).toInt = 0 := rfl
  refine ⟨?_, ?_⟩
  · intro c1
    have k2 := z_ne c1
    refine ⟨?_, ?_⟩
    · intro c3
      have r4 := w.at (a := 15) (k := 1) rfl
      have c5 : (m.1 15 1) < (8 : Int32) := c3
      have k6 := z_lt c5
      have w7 : WT (uI m 15 4 ((m.1 15 4) + (1 : Int32))) := w.n rfl
      have f7 : Fx (RS [3]) m (uI m 15 4 ((m.1 15 4) + (1 : Int32))) := f.i rfl
      have t9 := ti_add (x := (m.1 15 1)) (y := (1 : Int32)) (by omega)
      have w8 : WT (uI (uI m 15 4 ((m.1 15 4) + (1 : Int32))) 15 1 (((uI m 15 4 ((m.1 15 4) + (1 : Int32))).1 15 1) + (1 : Int32))) := w7.t rfl (by show (0 : Int) ≤ (((m.1 15 1) + (1 : Int32))).toInt; first | omega | decide) (by show (((m.1 15 1) + (1 : Int32))).toInt ≤ 8; first | omega | decide)
      have f8 : Fx (RS [3]) m (uI (uI m 15 4 ((m.1 15 4) + (1 : Int32))) 15 1 (((uI m 15 4 ((m.1 15 4) + (1 : Int32))).1 15 1) + (1 : Int32))) := f7.i rfl
      have w10 : WT (uI (uI (uI m 15 4 ((m.1 15 4) + (1 : Int32))) 15 1 (((uI m 15 4 ((m.1 15 4) + (1 : Int32))).1 15 1) + (1 : Int32))) 15 5 (0 : Int32)) := w8.n rfl
      have f10 : Fx (RS [3]) m (uI (uI (uI m 15 4 ((m.1 15 4) + (1 : Int32))) 15 1 (((uI m 15 4 ((m.1 15 4) + (1 : Int32))).1 15 1) + (1 : Int32))) 15 5 (0 : Int32)) := f8.i rfl
      have t11 := ti_sub (x := ((m.1 15 1) + (1 : Int32))) (y := (1 : Int32)) (by omega)
      refine (s_X8_clearSide w10 SS_16 (by show (0 : Int) ≤ ((((m.1 15 1) + (1 : Int32)) - (1 : Int32))).toInt; omega) (by show ((((m.1 15 1) + (1 : Int32)) - (1 : Int32))).toInt ≤ (7 : Int); omega)).to ?_
      rintro _ m1 ⟨w_m1, g12, rfl⟩
      have f_m1 : Fx (RS [3]) m m1 := f10.tr g12 (RS_sub rfl)
      refine ⟨rfl, ?_⟩
      have w13 : WT (uI m1 15 6 (2 : Int32)) := w_m1.n rfl
      have f13 : Fx (RS [3]) m (uI m1 15 6 (2 : Int32)) := f_m1.i rfl
      refine (s_X4_takeSkill w13).to ?_
      rintro _ m2 ⟨w_m2, g14, v3, rfl, p15, p16⟩
      have f_m2 : Fx (RS [3]) m m2 := f13.tr g14 (RS_sub rfl)
      refine ⟨v3, rfl, ?_⟩
      refine ⟨?_, ?_⟩
      · exact bz_of (by omega) (by omega)
      · exact ⟨w_m2, f_m2, _, rfl, (by show (0 : Int) ≤ (v3).toInt; omega), (by show (v3).toInt ≤ 1; omega)⟩
    · intro c17
      have r18 := w.at (a := 15) (k := 1) rfl
      have c19 : ¬ (m.1 15 1) < (8 : Int32) := c17
      have k20 := z_nlt c19
      have w21 : WT (uI m 15 4 ((m.1 15 4) + (1 : Int32))) := w.n rfl
      have f21 : Fx (RS [3]) m (uI m 15 4 ((m.1 15 4) + (1 : Int32))) := f.i rfl
      exact ⟨w21, f21, _, rfl, (by show (0 : Int) ≤ ((0 : Int32)).toInt; omega), (by show ((0 : Int32)).toInt ≤ 1; omega)⟩
  · intro c22
    have k23 := z_eq c22
    have w24 : WT (uI m 15 4 ((m.1 15 4) + (1 : Int32))) := w.n rfl
    have f24 : Fx (RS [3]) m (uI m 15 4 ((m.1 15 4) + (1 : Int32))) := f.i rfl
    have w25 : WT (uI (uI m 15 4 ((m.1 15 4) + (1 : Int32))) 15 6 (1 : Int32)) := w24.n rfl
    have f25 : Fx (RS [3]) m (uI (uI m 15 4 ((m.1 15 4) + (1 : Int32))) 15 6 (1 : Int32)) := f24.i rfl
    exact ⟨w25, f25, _, rfl, (by show (0 : Int) ≤ ((1 : Int32)).toInt; omega), (by show ((1 : Int32)).toInt ≤ 1; omega)⟩
set_option maxHeartbeats 4000000 in
theorem l_X4_take {ad : Nat → Nat} {d : Nat} {m0 : Wm}  : ∀ n : Nat, (∀ (m : Wm) (x1 : Int32), WT m → Fx (RS [3]) m0 m → 0 * x1.toInt < (n : Int) → AW ad E0 μX4_take (d + 3) (fun r m' => WT m' ∧ Fx (RS [3]) m0 m' ∧ ∃ v : Int32, r = some (.int v) ∧ (0 : Int) ≤ v.toInt ∧ v.toInt ≤ 1) 20 [(0, .ref (ad 15)), (1, .int x1)] [] m) := by
  intro n
  induction n with
  | zero =>
    intros
    exfalso
    omega
  | succ n ih =>
    intro m x1 w f  hn
    refine g_X4_take_20  ?_
    have tl2 : (2 : Int32).toInt = 2 := rfl
    have tl1 : (1 : Int32).toInt = 1 := rfl
    have tl0 : (0 : Int32).toInt = 0 := rfl
    refine ⟨?_, ?_, ?_, ?_⟩
    · intro c1
      have k2 := z_eq c1
      refine (s_X4_takeLine w).to ?_
      rintro _ m1 ⟨w_m1, g3, v2, rfl, p4, p5⟩
      have f_m1 : Fx (RS [3]) m0 m1 := f.tr g3 (RS_sub rfl)
      refine ⟨v2, rfl, ?_⟩
      refine ⟨?_, ?_⟩
      · exact bz_of (by omega) (by omega)
      · exact ⟨w_m1, f_m1, _, rfl, (by show (0 : Int) ≤ (v2).toInt; omega), (by show (v2).toInt ≤ 1; omega)⟩
    · intro c6
      have k7 := z_eq c6
      refine (s_X4_takeArts w).to ?_
      rintro _ m3 ⟨w_m3, g8, v4, rfl, p9, p10⟩
      have f_m3 : Fx (RS [3]) m0 m3 := f.tr g8 (RS_sub rfl)
      refine ⟨v4, rfl, ?_⟩
      refine ⟨?_, ?_⟩
      · exact bz_of (by omega) (by omega)
      · exact ⟨w_m3, f_m3, _, rfl, (by show (0 : Int) ≤ (v4).toInt; omega), (by show (v4).toInt ≤ 1; omega)⟩
    · intro c11
      have k12 := z_eq c11
      refine ⟨?_, ?_⟩
      · intro c13
        have r14 := w.at (a := 15) (k := 2) rfl
        have k15 := z_le c13
        refine (s_X4_takeIll w).to ?_
        rintro _ m5 ⟨w_m5, g16, v6, rfl, p17, p18⟩
        have f_m5 : Fx (RS [3]) m0 m5 := f.tr g16 (RS_sub rfl)
        refine ⟨v6, rfl, ?_⟩
        refine ⟨?_, ?_⟩
        · exact bz_of (by omega) (by omega)
        · exact ⟨w_m5, f_m5, _, rfl, (by show (0 : Int) ≤ (v6).toInt; omega), (by show (v6).toInt ≤ 1; omega)⟩
      · intro c19
        have r20 := w.at (a := 15) (k := 2) rfl
        have k21 := z_nle c19
        refine (s_X4_takeSkill w).to ?_
        rintro _ m7 ⟨w_m7, g22, v8, rfl, p23, p24⟩
        have f_m7 : Fx (RS [3]) m0 m7 := f.tr g22 (RS_sub rfl)
        refine ⟨v8, rfl, ?_⟩
        refine ⟨?_, ?_⟩
        · exact bz_of (by omega) (by omega)
        · exact ⟨w_m7, f_m7, _, rfl, (by show (0 : Int) ≤ (v8).toInt; omega), (by show (v8).toInt ≤ 1; omega)⟩
    · intro c25
      have k26 := z_ne c25
      intro c27
      have k28 := z_ne c27
      intro c29
      have k30 := z_ne c29
      exact ⟨w, f, _, rfl, (by show (0 : Int) ≤ ((0 : Int32)).toInt; omega), (by show ((0 : Int32)).toInt ≤ 1; omega)⟩
set_option maxHeartbeats 4000000 in
theorem s_X4_take {ad : Nat → Nat} {d : Nat} {m : Wm} {x1 : Int32} (w : WT m) : Ct ad μX4_take (d + 3) [.ref (ad 15), .int x1] m (fun r m' => WT m' ∧ Fx (RS [3]) m m' ∧ ∃ v : Int32, r = some (.int v) ∧ (0 : Int) ≤ v.toInt ∧ v.toInt ≤ 1) := by
  have f : Fx (RS [3]) m m := Fx.rf
  refine v_X4_take  ?_
  have tl59 : (59 : Int32).toInt = 59 := rfl
  have tl1 : (1 : Int32).toInt = 1 := rfl
  have tl0 : (0 : Int32).toInt = 0 := rfl
  refine ⟨?_, ?_⟩
  · intro c1
    have k2 := z_ne c1
    exact (l_X4_take (m0 := m) 1000000) _ _ w f (by show 0 * (x1).toInt < _; omega)
  · intro c3
    have k4 := z_eq c3
    refine (s_X4_canEnd w).to ?_
    rintro _ m1 ⟨w_m1, g5, v2, rfl, p6, p7⟩
    have f_m1 : Fx (RS [3]) m m1 := f.tr g5 (RS_sub rfl)
    refine ⟨v2, rfl, ?_⟩
    refine ⟨?_, ?_⟩
    · intro c8
      have k9 := z_eq c8
      exact (l_X4_take (m0 := m) 1000000) _ _ w_m1 f_m1 (by show 0 * (x1).toInt < _; omega)
    · intro c10
      have k11 := z_ne c10
      have w12 : WT (uI m1 15 6 (0 : Int32)) := w_m1.n rfl
      have f12 : Fx (RS [3]) m (uI m1 15 6 (0 : Int32)) := f_m1.i rfl
      exact ⟨w12, f12, _, rfl, (by show (0 : Int) ≤ ((1 : Int32)).toInt; omega), (by show ((1 : Int32)).toInt ≤ 1; omega)⟩
set_option maxHeartbeats 4000000 in
theorem l_X4_read {ad : Nat → Nat} {d : Nat} {m0 : Wm}  : ∀ n : Nat, (∀ (m : Wm) (x4 x5 : Int32), WT m → Fx (RS [3]) m0 m → (0 : Int) ≤ x4.toInt → x4.toInt ≤ (76 : Int) → (0 : Int) ≤ x5.toInt → x5.toInt ≤ (80 : Int) → 80 - x5.toInt < (n : Int) → AW ad E0 μX4_read (d + 4) (fun r m' => WT m' ∧ Fx (RS [3]) m0 m' ∧ ∃ v : Int32, r = some (.int v)) 61 [(0, .ref (ad 15)), (1, .ref (ad 1)), (4, .int x4), (5, .int x5)] [] m) := by
  intro n
  induction n with
  | zero =>
    intros
    exfalso
    omega
  | succ n ih =>
    intro m x4 x5 w f j1 j2 j3 j4 hn
    refine g_X4_read_61  ?_
    have tl76 : (76 : Int32).toInt = 76 := rfl
    have tl1 : (1 : Int32).toInt = 1 := rfl
    have tl0 : (0 : Int32).toInt = 0 := rfl
    have tlm1 : (-1 : Int32).toInt = -1 := rfl
    refine ⟨?_, ?_⟩
    · intro c1
      have k2 := z_le c1
      refine ⟨?_, ?_⟩
      · intro c3
        have r4 := w.at (a := 1) (k := 1) rfl
        have k5 := z_lt c3
        exact ⟨w, f, _, rfl⟩
      · intro c6
        have r7 := w.at (a := 1) (k := 1) rfl
        have k8 := z_nlt c6
        refine (s_X4_canEnd w).to ?_
        rintro _ m1 ⟨w_m1, g9, v2, rfl, p10, p11⟩
        have f_m1 : Fx (RS [3]) m0 m1 := f.tr g9 (RS_sub rfl)
        refine ⟨v2, rfl, ?_⟩
        refine ⟨?_, ?_⟩
        · intro c12
          have k13 := z_ne c12
          exact ⟨w_m1, f_m1, _, rfl⟩
        · intro c14
          have k15 := z_eq c14
          exact ⟨w_m1, f_m1, _, rfl⟩
    · intro c16
      have k17 := z_nle c16
      refine ⟨?_, ?_⟩
      · exact vpi (by omega) (by omega)
      · refine (s_X4_take w).to ?_
        rintro _ m3 ⟨w_m3, g18, v4, rfl, p19, p20⟩
        have f_m3 : Fx (RS [3]) m0 m3 := f.tr g18 (RS_sub rfl)
        refine ⟨v4, rfl, ?_⟩
        refine ⟨?_, ?_⟩
        · intro c21
          have k22 := z_ne c21
          have t23 := ti_add (x := x5) (y := (1 : Int32)) (by omega)
          exact ih _ _ _ w_m3 f_m3 (by show (0 : Int) ≤ (x4).toInt; omega) (by show (x4).toInt ≤ (76 : Int); omega) (by show (0 : Int) ≤ ((x5 + (1 : Int32))).toInt; omega) (by show ((x5 + (1 : Int32))).toInt ≤ (80 : Int); omega) (by omega)
        · intro c24
          have k25 := z_eq c24
          exact ⟨w_m3, f_m3, _, rfl⟩
set_option maxHeartbeats 4000000 in
theorem s_X4_read {ad : Nat → Nat} {d : Nat} {m : Wm} (w : WT m) : Ct ad μX4_read (d + 4) [.ref (ad 15), .ref (ad 1), .ref (ad 3), .ref (ad 21)] m (fun r m' => WT m' ∧ Fx (RS [3]) m m' ∧ ∃ v : Int32, r = some (.int v)) := by
  have f : Fx (RS [3]) m m := Fx.rf
  refine v_X4_read St_21 ?_
  have tl76 : (76 : Int32).toInt = 76 := rfl
  have tl0 : (0 : Int32).toInt = 0 := rfl
  refine (s_X8_copy w SS_16 SS_21).to ?_
  rintro _ m1 ⟨w_m1, g1, rfl⟩
  have f_m1 : Fx (RS [3]) m m1 := f.tr g1 (RS_sub rfl)
  refine ⟨rfl, ?_⟩
  have r3 := w_m1.at (a := 3) (k := 3) rfl
  have w2 : WT (uI m1 15 1 (m1.1 3 3)) := w_m1.t rfl (by show (0 : Int) ≤ ((m1.1 3 3)).toInt; first | omega | decide) (by show ((m1.1 3 3)).toInt ≤ 8; first | omega | decide)
  have f2 : Fx (RS [3]) m (uI m1 15 1 (m1.1 3 3)) := f_m1.i rfl
  have r5 := w_m1.at (a := 3) (k := 4) rfl
  have w4 : WT (uI (uI m1 15 1 (m1.1 3 3)) 15 2 ((uI m1 15 1 (m1.1 3 3)).1 3 4)) := w2.t rfl (by show (0 : Int) ≤ ((m1.1 3 4)).toInt; first | omega | decide) (by show ((m1.1 3 4)).toInt ≤ 4; first | omega | decide)
  have f4 : Fx (RS [3]) m (uI (uI m1 15 1 (m1.1 3 3)) 15 2 ((uI m1 15 1 (m1.1 3 3)).1 3 4)) := f2.i rfl
  have w6 : WT (uI (uI (uI m1 15 1 (m1.1 3 3)) 15 2 ((uI m1 15 1 (m1.1 3 3)).1 3 4)) 15 3 ((uI (uI m1 15 1 (m1.1 3 3)) 15 2 ((uI m1 15 1 (m1.1 3 3)).1 3 4)).1 3 5)) := w4.n rfl
  have f6 : Fx (RS [3]) m (uI (uI (uI m1 15 1 (m1.1 3 3)) 15 2 ((uI m1 15 1 (m1.1 3 3)).1 3 4)) 15 3 ((uI (uI m1 15 1 (m1.1 3 3)) 15 2 ((uI m1 15 1 (m1.1 3 3)).1 3 4)).1 3 5)) := f4.i rfl
  have w7 : WT (uI (uI (uI (uI m1 15 1 (m1.1 3 3)) 15 2 ((uI m1 15 1 (m1.1 3 3)).1 3 4)) 15 3 ((uI (uI m1 15 1 (m1.1 3 3)) 15 2 ((uI m1 15 1 (m1.1 3 3)).1 3 4)).1 3 5)) 15 4 (0 : Int32)) := w6.n rfl
  have f7 : Fx (RS [3]) m (uI (uI (uI (uI m1 15 1 (m1.1 3 3)) 15 2 ((uI m1 15 1 (m1.1 3 3)).1 3 4)) 15 3 ((uI (uI m1 15 1 (m1.1 3 3)) 15 2 ((uI m1 15 1 (m1.1 3 3)).1 3 4)).1 3 5)) 15 4 (0 : Int32)) := f6.i rfl
  have w8 : WT (uI (uI (uI (uI (uI m1 15 1 (m1.1 3 3)) 15 2 ((uI m1 15 1 (m1.1 3 3)).1 3 4)) 15 3 ((uI (uI m1 15 1 (m1.1 3 3)) 15 2 ((uI m1 15 1 (m1.1 3 3)).1 3 4)).1 3 5)) 15 4 (0 : Int32)) 15 6 (0 : Int32)) := w7.n rfl
  have f8 : Fx (RS [3]) m (uI (uI (uI (uI (uI m1 15 1 (m1.1 3 3)) 15 2 ((uI m1 15 1 (m1.1 3 3)).1 3 4)) 15 3 ((uI (uI m1 15 1 (m1.1 3 3)) 15 2 ((uI m1 15 1 (m1.1 3 3)).1 3 4)).1 3 5)) 15 4 (0 : Int32)) 15 6 (0 : Int32)) := f7.i rfl
  have w9 : WT (uI (uI (uI (uI (uI (uI m1 15 1 (m1.1 3 3)) 15 2 ((uI m1 15 1 (m1.1 3 3)).1 3 4)) 15 3 ((uI (uI m1 15 1 (m1.1 3 3)) 15 2 ((uI m1 15 1 (m1.1 3 3)).1 3 4)).1 3 5)) 15 4 (0 : Int32)) 15 6 (0 : Int32)) 15 7 (0 : Int32)) := w8.n rfl
  have f9 : Fx (RS [3]) m (uI (uI (uI (uI (uI (uI m1 15 1 (m1.1 3 3)) 15 2 ((uI m1 15 1 (m1.1 3 3)).1 3 4)) 15 3 ((uI (uI m1 15 1 (m1.1 3 3)) 15 2 ((uI m1 15 1 (m1.1 3 3)).1 3 4)).1 3 5)) 15 4 (0 : Int32)) 15 6 (0 : Int32)) 15 7 (0 : Int32)) := f8.i rfl
  have r10 := w_m1.at (a := 1) (k := 1) rfl
  have t11 := ti_lt (76 : Int32) (m1.1 1 1) (76 : Int32) (m1.1 1 1)
  exact (l_X4_read (m0 := m) 1000000) _ _ _ w9 f9 (by show (0 : Int) ≤ ((if (76 : Int32) < (m1.1 1 1) then (76 : Int32) else (m1.1 1 1))).toInt; omega) (by show ((if (76 : Int32) < (m1.1 1 1) then (76 : Int32) else (m1.1 1 1))).toInt ≤ (76 : Int); omega) (by show (0 : Int) ≤ ((0 : Int32)).toInt; omega) (by show ((0 : Int32)).toInt ≤ (80 : Int); omega) (by show 80 - ((0 : Int32)).toInt < _; omega)
set_option maxHeartbeats 4000000 in
theorem s_X4_enter {ad : Nat → Nat} {d : Nat} {m : Wm} (w : WT m) : Ct ad μX4_enter (d + 2) [.ref (ad 15), .ref (ad 3), .ref (ad 21)] m (fun r m' => WT m' ∧ Fx (RS [4, 1]) m m' ∧ r = none) := by
  have f : Fx (RS [4, 1]) m m := Fx.rf
  refine v_X4_enter St_21 ?_
  refine (s_X8_copy w SS_21 SS_16).to ?_
  rintro _ m1 ⟨w_m1, g1, rfl⟩
  have f_m1 : Fx (RS [4, 1]) m m1 := f.tr g1 (RS_sub rfl)
  refine ⟨rfl, ?_⟩
  have r3 := w_m1.at (a := 15) (k := 1) rfl
  have w2 : WT (uI m1 3 3 (m1.1 15 1)) := w_m1.t rfl (by show (0 : Int) ≤ ((m1.1 15 1)).toInt; first | omega | decide) (by show ((m1.1 15 1)).toInt ≤ 8; first | omega | decide)
  have f2 : Fx (RS [4, 1]) m (uI m1 3 3 (m1.1 15 1)) := f_m1.i rfl
  have r5 := w_m1.at (a := 15) (k := 2) rfl
  have w4 : WT (uI (uI m1 3 3 (m1.1 15 1)) 3 4 ((uI m1 3 3 (m1.1 15 1)).1 15 2)) := w2.t rfl (by show (0 : Int) ≤ ((m1.1 15 2)).toInt; first | omega | decide) (by show ((m1.1 15 2)).toInt ≤ 4; first | omega | decide)
  have f4 : Fx (RS [4, 1]) m (uI (uI m1 3 3 (m1.1 15 1)) 3 4 ((uI m1 3 3 (m1.1 15 1)).1 15 2)) := f2.i rfl
  have w6 : WT (uI (uI (uI m1 3 3 (m1.1 15 1)) 3 4 ((uI m1 3 3 (m1.1 15 1)).1 15 2)) 3 5 ((uI (uI m1 3 3 (m1.1 15 1)) 3 4 ((uI m1 3 3 (m1.1 15 1)).1 15 2)).1 15 3)) := w4.n rfl
  have f6 : Fx (RS [4, 1]) m (uI (uI (uI m1 3 3 (m1.1 15 1)) 3 4 ((uI m1 3 3 (m1.1 15 1)).1 15 2)) 3 5 ((uI (uI m1 3 3 (m1.1 15 1)) 3 4 ((uI m1 3 3 (m1.1 15 1)).1 15 2)).1 15 3)) := f4.i rfl
  exact ⟨w6, f6, rfl⟩
set_option maxHeartbeats 4000000 in
theorem s_X5_emit_5 {ad : Nat → Nat} {d : Nat} {m : Wm} {x1 : Int32} (w : WT m) : Ct ad μX5_emit d [.ref (ad 5), .int x1] m (fun r m' => WT m' ∧ Fx (RS [1]) m m' ∧ r = none ∧ ((m'.1 5 6).toInt = (m.1 5 6).toInt)) := by
  have f : Fx (RS [1]) m m := Fx.rf
  refine v_X5_emit Ru_5 ?_
  have tl40 : (40 : Int32).toInt = 40 := rfl
  have tl1 : (1 : Int32).toInt = 1 := rfl
  refine ⟨?_, ?_⟩
  · intro c1
    have r2 := w.at (a := 5) (k := 4) rfl
    have k3 := z_le c1
    have r4 := w.at (a := 5) (k := 6) rfl
    exact ⟨w, f, rfl, (by show ((m.1 5 6)).toInt = (m.1 5 6).toInt; omega)⟩
  · intro c5
    have r6 := w.at (a := 5) (k := 4) rfl
    have k7 := z_nle c5
    refine ⟨?_, ?_⟩
    · exact vpi (by omega) (by omega)
    · have w8 : WT (uI m (5 + 1) ((m.1 5 4).toNatClampNeg) x1) := w.n rfl
      have f8 : Fx (RS [1]) m (uI m (5 + 1) ((m.1 5 4).toNatClampNeg) x1) := f.i rfl
      have t10 := ti_add (x := (m.1 5 4)) (y := (1 : Int32)) (by omega)
      have w9 : WT (uI (uI m (5 + 1) ((m.1 5 4).toNatClampNeg) x1) 5 4 (((uI m (5 + 1) ((m.1 5 4).toNatClampNeg) x1).1 5 4) + (1 : Int32))) := w8.t rfl (by show (0 : Int) ≤ (((m.1 5 4) + (1 : Int32))).toInt; first | omega | decide) (by show (((m.1 5 4) + (1 : Int32))).toInt ≤ 40; first | omega | decide)
      have f9 : Fx (RS [1]) m (uI (uI m (5 + 1) ((m.1 5 4).toNatClampNeg) x1) 5 4 (((uI m (5 + 1) ((m.1 5 4).toNatClampNeg) x1).1 5 4) + (1 : Int32))) := f8.i rfl
      have r11 := w.at (a := 5) (k := 6) rfl
      exact ⟨w9, f9, rfl, (by show ((m.1 5 6)).toInt = (m.1 5 6).toInt; omega)⟩
set_option maxHeartbeats 4000000 in
theorem s_X5_emit_10 {ad : Nat → Nat} {d : Nat} {m : Wm} {x1 : Int32} (w : WT m) : Ct ad μX5_emit d [.ref (ad 10), .int x1] m (fun r m' => WT m' ∧ Fx (RS [1]) m m' ∧ r = none ∧ ((m'.1 10 6).toInt = (m.1 10 6).toInt)) := by
  have f : Fx (RS [1]) m m := Fx.rf
  refine v_X5_emit Ru_10 ?_
  have tl40 : (40 : Int32).toInt = 40 := rfl
  have tl1 : (1 : Int32).toInt = 1 := rfl
  refine ⟨?_, ?_⟩
  · intro c1
    have r2 := w.at (a := 10) (k := 4) rfl
    have k3 := z_le c1
    have r4 := w.at (a := 10) (k := 6) rfl
    exact ⟨w, f, rfl, (by show ((m.1 10 6)).toInt = (m.1 10 6).toInt; omega)⟩
  · intro c5
    have r6 := w.at (a := 10) (k := 4) rfl
    have k7 := z_nle c5
    refine ⟨?_, ?_⟩
    · exact vpi (by omega) (by omega)
    · have w8 : WT (uI m (10 + 1) ((m.1 10 4).toNatClampNeg) x1) := w.n rfl
      have f8 : Fx (RS [1]) m (uI m (10 + 1) ((m.1 10 4).toNatClampNeg) x1) := f.i rfl
      have t10 := ti_add (x := (m.1 10 4)) (y := (1 : Int32)) (by omega)
      have w9 : WT (uI (uI m (10 + 1) ((m.1 10 4).toNatClampNeg) x1) 10 4 (((uI m (10 + 1) ((m.1 10 4).toNatClampNeg) x1).1 10 4) + (1 : Int32))) := w8.t rfl (by show (0 : Int) ≤ (((m.1 10 4) + (1 : Int32))).toInt; first | omega | decide) (by show (((m.1 10 4) + (1 : Int32))).toInt ≤ 40; first | omega | decide)
      have f9 : Fx (RS [1]) m (uI (uI m (10 + 1) ((m.1 10 4).toNatClampNeg) x1) 10 4 (((uI m (10 + 1) ((m.1 10 4).toNatClampNeg) x1).1 10 4) + (1 : Int32))) := f8.i rfl
      have r11 := w.at (a := 10) (k := 6) rfl
      exact ⟨w9, f9, rfl, (by show ((m.1 10 6)).toInt = (m.1 10 6).toInt; omega)⟩
theorem s_X5_emit {ad : Nat → Nat} {d : Nat} {m : Wm} {b0 : Nat} {x1 : Int32} (w : WT m) (hb0 : b0 = 5 ∨ b0 = 10) : Ct ad μX5_emit d [.ref (ad b0), .int x1] m (fun r m' => WT m' ∧ Fx (RS [1]) m m' ∧ r = none ∧ ((m'.1 b0 6).toInt = (m.1 b0 6).toInt)) := by
  rcases hb0 with rfl | rfl
  · exact s_X5_emit_5 w
  · exact s_X5_emit_10 w
set_option maxHeartbeats 4000000 in
theorem s_X5_hold_5 {ad : Nat → Nat} {d : Nat} {m : Wm} {x1 : Int32} (w : WT m) : Ct ad μX5_hold d [.ref (ad 5), .int x1] m (fun r m' => WT m' ∧ Fx (RS [1]) m m' ∧ r = none) := by
  have f : Fx (RS [1]) m m := Fx.rf
  refine v_X5_hold Ru_5 ?_
  have tl40 : (40 : Int32).toInt = 40 := rfl
  have tl1 : (1 : Int32).toInt = 1 := rfl
  refine ⟨?_, ?_⟩
  · intro c1
    have r2 := w.at (a := 5) (k := 5) rfl
    have k3 := z_le c1
    exact ⟨w, f, rfl⟩
  · intro c4
    have r5 := w.at (a := 5) (k := 5) rfl
    have k6 := z_nle c4
    refine ⟨?_, ?_⟩
    · exact vpi (by omega) (by omega)
    · have w7 : WT (uI m (5 + 3) ((m.1 5 5).toNatClampNeg) x1) := w.n rfl
      have f7 : Fx (RS [1]) m (uI m (5 + 3) ((m.1 5 5).toNatClampNeg) x1) := f.i rfl
      have t9 := ti_add (x := (m.1 5 5)) (y := (1 : Int32)) (by omega)
      have w8 : WT (uI (uI m (5 + 3) ((m.1 5 5).toNatClampNeg) x1) 5 5 (((uI m (5 + 3) ((m.1 5 5).toNatClampNeg) x1).1 5 5) + (1 : Int32))) := w7.t rfl (by show (0 : Int) ≤ (((m.1 5 5) + (1 : Int32))).toInt; first | omega | decide) (by show (((m.1 5 5) + (1 : Int32))).toInt ≤ 40; first | omega | decide)
      have f8 : Fx (RS [1]) m (uI (uI m (5 + 3) ((m.1 5 5).toNatClampNeg) x1) 5 5 (((uI m (5 + 3) ((m.1 5 5).toNatClampNeg) x1).1 5 5) + (1 : Int32))) := f7.i rfl
      exact ⟨w8, f8, rfl⟩
set_option maxHeartbeats 4000000 in
theorem s_X5_hold_10 {ad : Nat → Nat} {d : Nat} {m : Wm} {x1 : Int32} (w : WT m) : Ct ad μX5_hold d [.ref (ad 10), .int x1] m (fun r m' => WT m' ∧ Fx (RS [1]) m m' ∧ r = none) := by
  have f : Fx (RS [1]) m m := Fx.rf
  refine v_X5_hold Ru_10 ?_
  have tl40 : (40 : Int32).toInt = 40 := rfl
  have tl1 : (1 : Int32).toInt = 1 := rfl
  refine ⟨?_, ?_⟩
  · intro c1
    have r2 := w.at (a := 10) (k := 5) rfl
    have k3 := z_le c1
    exact ⟨w, f, rfl⟩
  · intro c4
    have r5 := w.at (a := 10) (k := 5) rfl
    have k6 := z_nle c4
    refine ⟨?_, ?_⟩
    · exact vpi (by omega) (by omega)
    · have w7 : WT (uI m (10 + 3) ((m.1 10 5).toNatClampNeg) x1) := w.n rfl
      have f7 : Fx (RS [1]) m (uI m (10 + 3) ((m.1 10 5).toNatClampNeg) x1) := f.i rfl
      have t9 := ti_add (x := (m.1 10 5)) (y := (1 : Int32)) (by omega)
      have w8 : WT (uI (uI m (10 + 3) ((m.1 10 5).toNatClampNeg) x1) 10 5 (((uI m (10 + 3) ((m.1 10 5).toNatClampNeg) x1).1 10 5) + (1 : Int32))) := w7.t rfl (by show (0 : Int) ≤ (((m.1 10 5) + (1 : Int32))).toInt; first | omega | decide) (by show (((m.1 10 5) + (1 : Int32))).toInt ≤ 40; first | omega | decide)
      have f8 : Fx (RS [1]) m (uI (uI m (10 + 3) ((m.1 10 5).toNatClampNeg) x1) 10 5 (((uI m (10 + 3) ((m.1 10 5).toNatClampNeg) x1).1 10 5) + (1 : Int32))) := f7.i rfl
      exact ⟨w8, f8, rfl⟩
theorem s_X5_hold {ad : Nat → Nat} {d : Nat} {m : Wm} {b0 : Nat} {x1 : Int32} (w : WT m) (hb0 : b0 = 5 ∨ b0 = 10) : Ct ad μX5_hold d [.ref (ad b0), .int x1] m (fun r m' => WT m' ∧ Fx (RS [1]) m m' ∧ r = none) := by
  rcases hb0 with rfl | rfl
  · exact s_X5_hold_5 w
  · exact s_X5_hold_10 w
set_option maxHeartbeats 4000000 in
theorem l_X5_release_5 {ad : Nat → Nat} {d : Nat} {m0 : Wm}  : ∀ n : Nat, (∀ (m : Wm) (x1 x2 : Int32), WT m → Fx (RS [1]) m0 m → (-1 : Int) ≤ x2.toInt → x2.toInt ≤ (39 : Int) → ((m.1 5 6).toInt = (m0.1 5 6).toInt) → x2.toInt + 1 < (n : Int) → AW ad E0 μX5_release (d + 1) (fun r m' => WT m' ∧ Fx (RS [1]) m0 m' ∧ r = none ∧ ((m'.1 5 6).toInt = (m0.1 5 6).toInt)) 7 [(0, .ref (ad 5)), (1, .int x1), (2, .int x2)] [] m) := by
  intro n
  induction n with
  | zero =>
    intros
    exfalso
    omega
  | succ n ih =>
    intro m x1 x2 w f j1 j2 j3 hn
    refine g_X5_release_7 Ru_5 ?_
    have tl0 : (0 : Int32).toInt = 0 := rfl
    have tlm1 : (-1 : Int32).toInt = -1 := rfl
    refine ⟨?_, ?_⟩
    · intro c1
      have k2 := z_lt c1
      have r3 := w.at (a := 5) (k := 6) rfl
      exact ⟨w, f, rfl, (by show ((m.1 5 6)).toInt = (m0.1 5 6).toInt; omega)⟩
    · intro c4
      have k5 := z_nlt c4
      refine ⟨?_, ?_⟩
      · exact vpi (by omega) (by omega)
      · refine (s_X5_rank w).to ?_
        rintro _ m1 ⟨w_m1, g6, v2, rfl, p7, p8⟩
        have f_m1 : Fx (RS [1]) m0 m1 := f.tr g6 (RS_sub rfl)
        refine ⟨v2, rfl, ?_⟩
        refine ⟨?_, ?_⟩
        · intro c9
          have k10 := z_le c9
          refine ⟨?_, ?_⟩
          · exact vpi (by omega) (by omega)
          · refine (s_X5_emit w_m1 (Or.inl rfl)).to ?_
            rintro _ m3 ⟨w_m3, g11, rfl, p12⟩
            have f_m3 : Fx (RS [1]) m0 m3 := f_m1.tr g11 (RS_sub rfl)
            have p13 : (m3.1 5 6).toInt = ((m1.1 5 6)).toInt := p12
            refine ⟨rfl, ?_⟩
            have w14 : WT (uI m3 5 5 x2) := w_m3.t rfl (by show (0 : Int) ≤ (x2).toInt; first | omega | decide) (by show (x2).toInt ≤ 40; first | omega | decide)
            have f14 : Fx (RS [1]) m0 (uI m3 5 5 x2) := f_m3.i rfl
            have t15 := ti_add (x := x2) (y := (-1 : Int32)) (by omega)
            have r16 := w_m3.at (a := 5) (k := 6) rfl
            exact ih _ _ _ w14 f14 (by show (-1 : Int) ≤ ((x2 + (-1 : Int32))).toInt; omega) (by show ((x2 + (-1 : Int32))).toInt ≤ (39 : Int); omega) (by show ((m3.1 5 6)).toInt = (m0.1 5 6).toInt; omega) (by omega)
        · intro c17
          have k18 := z_nle c17
          have r19 := w_m1.at (a := 5) (k := 6) rfl
          exact ⟨w_m1, f_m1, rfl, (by show ((m1.1 5 6)).toInt = (m0.1 5 6).toInt; omega)⟩
set_option maxHeartbeats 4000000 in
theorem s_X5_release_5 {ad : Nat → Nat} {d : Nat} {m : Wm} {x1 : Int32} (w : WT m) : Ct ad μX5_release (d + 1) [.ref (ad 5), .int x1] m (fun r m' => WT m' ∧ Fx (RS [1]) m m' ∧ r = none ∧ ((m'.1 5 6).toInt = (m.1 5 6).toInt)) := by
  have f : Fx (RS [1]) m m := Fx.rf
  refine v_X5_release Ru_5 ?_
  have tl1 : (1 : Int32).toInt = 1 := rfl
  have r1 := w.at (a := 5) (k := 5) rfl
  have t2 := ti_sub (x := (m.1 5 5)) (y := (1 : Int32)) (by omega)
  have r3 := w.at (a := 5) (k := 6) rfl
  exact (l_X5_release_5 (m0 := m) 1000000) _ _ _ w f (by show (-1 : Int) ≤ (((m.1 5 5) - (1 : Int32))).toInt; omega) (by show (((m.1 5 5) - (1 : Int32))).toInt ≤ (39 : Int); omega) (by show ((m.1 5 6)).toInt = (m0.1 5 6).toInt; omega) (by show (((m.1 5 5) - (1 : Int32))).toInt + 1 < _; omega)
set_option maxHeartbeats 4000000 in
theorem l_X5_release_10 {ad : Nat → Nat} {d : Nat} {m0 : Wm}  : ∀ n : Nat, (∀ (m : Wm) (x1 x2 : Int32), WT m → Fx (RS [1]) m0 m → (-1 : Int) ≤ x2.toInt → x2.toInt ≤ (39 : Int) → ((m.1 10 6).toInt = (m0.1 10 6).toInt) → x2.toInt + 1 < (n : Int) → AW ad E0 μX5_release (d + 1) (fun r m' => WT m' ∧ Fx (RS [1]) m0 m' ∧ r = none ∧ ((m'.1 10 6).toInt = (m0.1 10 6).toInt)) 7 [(0, .ref (ad 10)), (1, .int x1), (2, .int x2)] [] m) := by
  intro n
  induction n with
  | zero =>
    intros
    exfalso
    omega
  | succ n ih =>
    intro m x1 x2 w f j1 j2 j3 hn
    refine g_X5_release_7 Ru_10 ?_
    have tl0 : (0 : Int32).toInt = 0 := rfl
    have tlm1 : (-1 : Int32).toInt = -1 := rfl
    refine ⟨?_, ?_⟩
    · intro c1
      have k2 := z_lt c1
      have r3 := w.at (a := 10) (k := 6) rfl
      exact ⟨w, f, rfl, (by show ((m.1 10 6)).toInt = (m0.1 10 6).toInt; omega)⟩
    · intro c4
      have k5 := z_nlt c4
      refine ⟨?_, ?_⟩
      · exact vpi (by omega) (by omega)
      · refine (s_X5_rank w).to ?_
        rintro _ m1 ⟨w_m1, g6, v2, rfl, p7, p8⟩
        have f_m1 : Fx (RS [1]) m0 m1 := f.tr g6 (RS_sub rfl)
        refine ⟨v2, rfl, ?_⟩
        refine ⟨?_, ?_⟩
        · intro c9
          have k10 := z_le c9
          refine ⟨?_, ?_⟩
          · exact vpi (by omega) (by omega)
          · refine (s_X5_emit w_m1 (Or.inr rfl)).to ?_
            rintro _ m3 ⟨w_m3, g11, rfl, p12⟩
            have f_m3 : Fx (RS [1]) m0 m3 := f_m1.tr g11 (RS_sub rfl)
            have p13 : (m3.1 10 6).toInt = ((m1.1 10 6)).toInt := p12
            refine ⟨rfl, ?_⟩
            have w14 : WT (uI m3 10 5 x2) := w_m3.t rfl (by show (0 : Int) ≤ (x2).toInt; first | omega | decide) (by show (x2).toInt ≤ 40; first | omega | decide)
            have f14 : Fx (RS [1]) m0 (uI m3 10 5 x2) := f_m3.i rfl
            have t15 := ti_add (x := x2) (y := (-1 : Int32)) (by omega)
            have r16 := w_m3.at (a := 10) (k := 6) rfl
            exact ih _ _ _ w14 f14 (by show (-1 : Int) ≤ ((x2 + (-1 : Int32))).toInt; omega) (by show ((x2 + (-1 : Int32))).toInt ≤ (39 : Int); omega) (by show ((m3.1 10 6)).toInt = (m0.1 10 6).toInt; omega) (by omega)
        · intro c17
          have k18 := z_nle c17
          have r19 := w_m1.at (a := 10) (k := 6) rfl
          exact ⟨w_m1, f_m1, rfl, (by show ((m1.1 10 6)).toInt = (m0.1 10 6).toInt; omega)⟩
set_option maxHeartbeats 4000000 in
theorem s_X5_release_10 {ad : Nat → Nat} {d : Nat} {m : Wm} {x1 : Int32} (w : WT m) : Ct ad μX5_release (d + 1) [.ref (ad 10), .int x1] m (fun r m' => WT m' ∧ Fx (RS [1]) m m' ∧ r = none ∧ ((m'.1 10 6).toInt = (m.1 10 6).toInt)) := by
  have f : Fx (RS [1]) m m := Fx.rf
  refine v_X5_release Ru_10 ?_
  have tl1 : (1 : Int32).toInt = 1 := rfl
  have r1 := w.at (a := 10) (k := 5) rfl
  have t2 := ti_sub (x := (m.1 10 5)) (y := (1 : Int32)) (by omega)
  have r3 := w.at (a := 10) (k := 6) rfl
  exact (l_X5_release_10 (m0 := m) 1000000) _ _ _ w f (by show (-1 : Int) ≤ (((m.1 10 5) - (1 : Int32))).toInt; omega) (by show (((m.1 10 5) - (1 : Int32))).toInt ≤ (39 : Int); omega) (by show ((m.1 10 6)).toInt = (m0.1 10 6).toInt; omega) (by show (((m.1 10 5) - (1 : Int32))).toInt + 1 < _; omega)
theorem s_X5_release {ad : Nat → Nat} {d : Nat} {m : Wm} {b0 : Nat} {x1 : Int32} (w : WT m) (hb0 : b0 = 5 ∨ b0 = 10) : Ct ad μX5_release (d + 1) [.ref (ad b0), .int x1] m (fun r m' => WT m' ∧ Fx (RS [1]) m m' ∧ r = none ∧ ((m'.1 b0 6).toInt = (m.1 b0 6).toInt)) := by
  rcases hb0 with rfl | rfl
  · exact s_X5_release_5 w
  · exact s_X5_release_10 w
set_option maxHeartbeats 4000000 in
theorem s_X5_takeDigit_5 {ad : Nat → Nat} {d : Nat} {m : Wm} {x1 : Int32} (w : WT m) : Ct ad μX5_takeDigit (d + 1) [.ref (ad 5), .int x1] m (fun r m' => WT m' ∧ Fx (RS [1]) m m' ∧ ∃ v : Int32, r = some (.int v) ∧ (0 : Int) ≤ v.toInt ∧ v.toInt ≤ 1) := by
  have f : Fx (RS [1]) m m := Fx.rf
  refine v_X5_takeDigit Ru_5 ?_
  have tl3 : (3 : Int32).toInt = 3 := rfl
  have tl1 : (1 : Int32).toInt = 1 := rfl
  have tl0 : (0 : Int32).toInt = 0 := rfl
  refine ⟨?_, ?_⟩
  · intro c1
    have k2 := z_eq c1
    refine ⟨?_, ?_⟩
    · intro c3
      have k4 := z_eq c3
      exact ⟨w, f, _, rfl, (by show (0 : Int) ≤ ((0 : Int32)).toInt; omega), (by show ((0 : Int32)).toInt ≤ 1; omega)⟩
    · intro c5
      have k6 := z_ne c5
      refine ⟨?_, ?_⟩
      · intro c7
        have k8 := z_eq c7
        exact ⟨w, f, _, rfl, (by show (0 : Int) ≤ ((0 : Int32)).toInt; omega), (by show ((0 : Int32)).toInt ≤ 1; omega)⟩
      · intro c9
        have k10 := z_ne c9
        refine ⟨?_, ?_⟩
        · intro c11
          have r12 := w.at (a := 5) (k := 4) rfl
          have k13 := z_ne c11
          refine ⟨?_, ?_⟩
          · have t14 := ti_sub (x := (m.1 5 4)) (y := (1 : Int32)) (by omega)
            exact vpi (by omega) (by omega)
          · refine ⟨?_, ?_⟩
            · have t15 := ti_sub (x := (m.1 5 4)) (y := (1 : Int32)) (by omega)
              exact vpi (by omega) (by omega)
            · have w16 : WT (uI m (5 + 1) (((m.1 5 4) - (1 : Int32)).toNatClampNeg) (((m.1 (5 + 1) (((m.1 5 4) - (1 : Int32)).toNatClampNeg)) * (10 : Int32)) + x1)) := w.n rfl
              have f16 : Fx (RS [1]) m (uI m (5 + 1) (((m.1 5 4) - (1 : Int32)).toNatClampNeg) (((m.1 (5 + 1) (((m.1 5 4) - (1 : Int32)).toNatClampNeg)) * (10 : Int32)) + x1)) := f.i rfl
              have w17 : WT (uI (uI m (5 + 1) (((m.1 5 4) - (1 : Int32)).toNatClampNeg) (((m.1 (5 + 1) (((m.1 5 4) - (1 : Int32)).toNatClampNeg)) * (10 : Int32)) + x1)) 5 7 (((uI m (5 + 1) (((m.1 5 4) - (1 : Int32)).toNatClampNeg) (((m.1 (5 + 1) (((m.1 5 4) - (1 : Int32)).toNatClampNeg)) * (10 : Int32)) + x1)).1 5 7) + (1 : Int32))) := w16.n rfl
              have f17 : Fx (RS [1]) m (uI (uI m (5 + 1) (((m.1 5 4) - (1 : Int32)).toNatClampNeg) (((m.1 (5 + 1) (((m.1 5 4) - (1 : Int32)).toNatClampNeg)) * (10 : Int32)) + x1)) 5 7 (((uI m (5 + 1) (((m.1 5 4) - (1 : Int32)).toNatClampNeg) (((m.1 (5 + 1) (((m.1 5 4) - (1 : Int32)).toNatClampNeg)) * (10 : Int32)) + x1)).1 5 7) + (1 : Int32))) := f16.i rfl
              exact ⟨w17, f17, _, rfl, (by show (0 : Int) ≤ ((1 : Int32)).toInt; omega), (by show ((1 : Int32)).toInt ≤ 1; omega)⟩
        · intro c18
          have r19 := w.at (a := 5) (k := 4) rfl
          have k20 := z_eq c18
          exact ⟨w, f, _, rfl, (by show (0 : Int) ≤ ((0 : Int32)).toInt; omega), (by show ((0 : Int32)).toInt ≤ 1; omega)⟩
  · intro c21
    have k22 := z_ne c21
    refine (s_X5_emit w (Or.inl rfl)).to ?_
    rintro _ m1 ⟨w_m1, g23, rfl, p24⟩
    have f_m1 : Fx (RS [1]) m m1 := f.tr g23 (RS_sub rfl)
    have p25 : (m1.1 5 6).toInt = ((m.1 5 6)).toInt := p24
    refine ⟨rfl, ?_⟩
    have w26 : WT (uI m1 5 7 (1 : Int32)) := w_m1.n rfl
    have f26 : Fx (RS [1]) m (uI m1 5 7 (1 : Int32)) := f_m1.i rfl
    have w27 : WT (uI (uI m1 5 7 (1 : Int32)) 5 8 (0 : Int32)) := w26.n rfl
    have f27 : Fx (RS [1]) m (uI (uI m1 5 7 (1 : Int32)) 5 8 (0 : Int32)) := f26.i rfl
    exact ⟨w27, f27, _, rfl, (by show (0 : Int) ≤ ((1 : Int32)).toInt; omega), (by show ((1 : Int32)).toInt ≤ 1; omega)⟩
set_option maxHeartbeats 4000000 in
theorem s_X5_takeDigit_10 {ad : Nat → Nat} {d : Nat} {m : Wm} {x1 : Int32} (w : WT m) : Ct ad μX5_takeDigit (d + 1) [.ref (ad 10), .int x1] m (fun r m' => WT m' ∧ Fx (RS [1]) m m' ∧ ∃ v : Int32, r = some (.int v) ∧ (0 : Int) ≤ v.toInt ∧ v.toInt ≤ 1) := by
  have f : Fx (RS [1]) m m := Fx.rf
  refine v_X5_takeDigit Ru_10 ?_
  have tl3 : (3 : Int32).toInt = 3 := rfl
  have tl1 : (1 : Int32).toInt = 1 := rfl
  have tl0 : (0 : Int32).toInt = 0 := rfl
  refine ⟨?_, ?_⟩
  · intro c1
    have k2 := z_eq c1
    refine ⟨?_, ?_⟩
    · intro c3
      have k4 := z_eq c3
      exact ⟨w, f, _, rfl, (by show (0 : Int) ≤ ((0 : Int32)).toInt; omega), (by show ((0 : Int32)).toInt ≤ 1; omega)⟩
    · intro c5
      have k6 := z_ne c5
      refine ⟨?_, ?_⟩
      · intro c7
        have k8 := z_eq c7
        exact ⟨w, f, _, rfl, (by show (0 : Int) ≤ ((0 : Int32)).toInt; omega), (by show ((0 : Int32)).toInt ≤ 1; omega)⟩
      · intro c9
        have k10 := z_ne c9
        refine ⟨?_, ?_⟩
        · intro c11
          have r12 := w.at (a := 10) (k := 4) rfl
          have k13 := z_ne c11
          refine ⟨?_, ?_⟩
          · have t14 := ti_sub (x := (m.1 10 4)) (y := (1 : Int32)) (by omega)
            exact vpi (by omega) (by omega)
          · refine ⟨?_, ?_⟩
            · have t15 := ti_sub (x := (m.1 10 4)) (y := (1 : Int32)) (by omega)
              exact vpi (by omega) (by omega)
            · have w16 : WT (uI m (10 + 1) (((m.1 10 4) - (1 : Int32)).toNatClampNeg) (((m.1 (10 + 1) (((m.1 10 4) - (1 : Int32)).toNatClampNeg)) * (10 : Int32)) + x1)) := w.n rfl
              have f16 : Fx (RS [1]) m (uI m (10 + 1) (((m.1 10 4) - (1 : Int32)).toNatClampNeg) (((m.1 (10 + 1) (((m.1 10 4) - (1 : Int32)).toNatClampNeg)) * (10 : Int32)) + x1)) := f.i rfl
              have w17 : WT (uI (uI m (10 + 1) (((m.1 10 4) - (1 : Int32)).toNatClampNeg) (((m.1 (10 + 1) (((m.1 10 4) - (1 : Int32)).toNatClampNeg)) * (10 : Int32)) + x1)) 10 7 (((uI m (10 + 1) (((m.1 10 4) - (1 : Int32)).toNatClampNeg) (((m.1 (10 + 1) (((m.1 10 4) - (1 : Int32)).toNatClampNeg)) * (10 : Int32)) + x1)).1 10 7) + (1 : Int32))) := w16.n rfl
              have f17 : Fx (RS [1]) m (uI (uI m (10 + 1) (((m.1 10 4) - (1 : Int32)).toNatClampNeg) (((m.1 (10 + 1) (((m.1 10 4) - (1 : Int32)).toNatClampNeg)) * (10 : Int32)) + x1)) 10 7 (((uI m (10 + 1) (((m.1 10 4) - (1 : Int32)).toNatClampNeg) (((m.1 (10 + 1) (((m.1 10 4) - (1 : Int32)).toNatClampNeg)) * (10 : Int32)) + x1)).1 10 7) + (1 : Int32))) := f16.i rfl
              exact ⟨w17, f17, _, rfl, (by show (0 : Int) ≤ ((1 : Int32)).toInt; omega), (by show ((1 : Int32)).toInt ≤ 1; omega)⟩
        · intro c18
          have r19 := w.at (a := 10) (k := 4) rfl
          have k20 := z_eq c18
          exact ⟨w, f, _, rfl, (by show (0 : Int) ≤ ((0 : Int32)).toInt; omega), (by show ((0 : Int32)).toInt ≤ 1; omega)⟩
  · intro c21
    have k22 := z_ne c21
    refine (s_X5_emit w (Or.inr rfl)).to ?_
    rintro _ m1 ⟨w_m1, g23, rfl, p24⟩
    have f_m1 : Fx (RS [1]) m m1 := f.tr g23 (RS_sub rfl)
    have p25 : (m1.1 10 6).toInt = ((m.1 10 6)).toInt := p24
    refine ⟨rfl, ?_⟩
    have w26 : WT (uI m1 10 7 (1 : Int32)) := w_m1.n rfl
    have f26 : Fx (RS [1]) m (uI m1 10 7 (1 : Int32)) := f_m1.i rfl
    have w27 : WT (uI (uI m1 10 7 (1 : Int32)) 10 8 (0 : Int32)) := w26.n rfl
    have f27 : Fx (RS [1]) m (uI (uI m1 10 7 (1 : Int32)) 10 8 (0 : Int32)) := f26.i rfl
    exact ⟨w27, f27, _, rfl, (by show (0 : Int) ≤ ((1 : Int32)).toInt; omega), (by show ((1 : Int32)).toInt ≤ 1; omega)⟩
theorem s_X5_takeDigit {ad : Nat → Nat} {d : Nat} {m : Wm} {b0 : Nat} {x1 : Int32} (w : WT m) (hb0 : b0 = 5 ∨ b0 = 10) : Ct ad μX5_takeDigit (d + 1) [.ref (ad b0), .int x1] m (fun r m' => WT m' ∧ Fx (RS [1]) m m' ∧ ∃ v : Int32, r = some (.int v) ∧ (0 : Int) ≤ v.toInt ∧ v.toInt ≤ 1) := by
  rcases hb0 with rfl | rfl
  · exact s_X5_takeDigit_5 w
  · exact s_X5_takeDigit_10 w
set_option maxHeartbeats 4000000 in
theorem s_X5_takeThing_5 {ad : Nat → Nat} {d : Nat} {m : Wm} {x1 : Int32} (w : WT m) : Ct ad μX5_takeThing (d + 1) [.ref (ad 5), .int x1] m (fun r m' => WT m' ∧ Fx (RS [1]) m m' ∧ ∃ v : Int32, r = some (.int v) ∧ (0 : Int) ≤ v.toInt ∧ v.toInt ≤ 1) := by
  have f : Fx (RS [1]) m m := Fx.rf
  refine v_X5_takeThing Ru_5 ?_
  have tl256 : (256 : Int32).toInt = 256 := rfl
  have tl45 : (45 : Int32).toInt = 45 := rfl
  have tl40 : (40 : Int32).toInt = 40 := rfl
  have tl4 : (4 : Int32).toInt = 4 := rfl
  have tl1 : (1 : Int32).toInt = 1 := rfl
  have tl0 : (0 : Int32).toInt = 0 := rfl
  refine ⟨?_, ?_⟩
  · intro c1
    have k2 := z_ne c1
    refine ⟨?_, ?_⟩
    · intro c3
      have k4 := z_ne c3
      refine (s_X5_isThing w).to ?_
      rintro _ m1 ⟨w_m1, g5, v2, rfl, p6, p7⟩
      have f_m1 : Fx (RS [1]) m m1 := f.tr g5 (RS_sub rfl)
      refine ⟨v2, rfl, ?_⟩
      refine ⟨?_, ?_⟩
      · intro c8
        have k9 := z_ne c8
        refine (s_X5_emit w_m1 (Or.inl rfl)).to ?_
        rintro _ m3 ⟨w_m3, g10, rfl, p11⟩
        have f_m3 : Fx (RS [1]) m m3 := f_m1.tr g10 (RS_sub rfl)
        have p12 : (m3.1 5 6).toInt = ((m1.1 5 6)).toInt := p11
        refine ⟨rfl, ?_⟩
        have w13 : WT (uI m3 5 8 (0 : Int32)) := w_m3.n rfl
        have f13 : Fx (RS [1]) m (uI m3 5 8 (0 : Int32)) := f_m3.i rfl
        exact ⟨w13, f13, _, rfl, (by show (0 : Int) ≤ ((1 : Int32)).toInt; omega), (by show ((1 : Int32)).toInt ≤ 1; omega)⟩
      · intro c14
        have k15 := z_eq c14
        exact ⟨w_m1, f_m1, _, rfl, (by show (0 : Int) ≤ ((0 : Int32)).toInt; omega), (by show ((0 : Int32)).toInt ≤ 1; omega)⟩
    · intro c16
      have k17 := z_eq c16
      refine ⟨?_, ?_⟩
      · intro c18
        have r19 := w.at (a := 5) (k := 6) rfl
        have k20 := z_lt c18
        refine ⟨?_, ?_⟩
        · have t21 := ti_add (x := (m.1 5 6)) (y := (1 : Int32)) (by omega)
          show vp_in ((m.1 5 6) + (1 : Int32)) 5
          exact vpi (by omega) (by omega)
        · have t23 := ti_add (x := (m.1 5 6)) (y := (1 : Int32)) (by omega)
          have w22 : WT (uI m 5 6 ((m.1 5 6) + (1 : Int32))) := w.t rfl (by show (0 : Int) ≤ (((m.1 5 6) + (1 : Int32))).toInt; first | omega | decide) (by show (((m.1 5 6) + (1 : Int32))).toInt ≤ 4; first | omega | decide)
          have f22 : Fx (RS [1]) m (uI m 5 6 ((m.1 5 6) + (1 : Int32))) := f.i rfl
          have w24 : WT (uI (uI m 5 6 ((m.1 5 6) + (1 : Int32))) (5 + 4) (((uI m 5 6 ((m.1 5 6) + (1 : Int32))).1 5 6).toNatClampNeg) (vp_nar .boolean (0 : Int32))) := w22.n rfl
          have f24 : Fx (RS [1]) m (uI (uI m 5 6 ((m.1 5 6) + (1 : Int32))) (5 + 4) (((uI m 5 6 ((m.1 5 6) + (1 : Int32))).1 5 6).toNatClampNeg) (vp_nar .boolean (0 : Int32))) := f22.i rfl
          refine (s_X5_hold w24 (Or.inl rfl)).to ?_
          rintro _ m4 ⟨w_m4, g25, rfl⟩
          have f_m4 : Fx (RS [1]) m m4 := f24.tr g25 (RS_sub rfl)
          refine ⟨rfl, ?_⟩
          exact ⟨w_m4, f_m4, _, rfl, (by show (0 : Int) ≤ ((1 : Int32)).toInt; omega), (by show ((1 : Int32)).toInt ≤ 1; omega)⟩
      · intro c26
        have r27 := w.at (a := 5) (k := 6) rfl
        have k28 := z_nlt c26
        exact ⟨w, f, _, rfl, (by show (0 : Int) ≤ ((0 : Int32)).toInt; omega), (by show ((0 : Int32)).toInt ≤ 1; omega)⟩
  · intro c29
    have k30 := z_eq c29
    refine (s_X5_hold w (Or.inl rfl)).to ?_
    rintro _ m5 ⟨w_m5, g31, rfl⟩
    have f_m5 : Fx (RS [1]) m m5 := f.tr g31 (RS_sub rfl)
    refine ⟨rfl, ?_⟩
    exact ⟨w_m5, f_m5, _, rfl, (by show (0 : Int) ≤ ((1 : Int32)).toInt; omega), (by show ((1 : Int32)).toInt ≤ 1; omega)⟩
set_option maxHeartbeats 4000000 in
theorem s_X5_takeThing_10 {ad : Nat → Nat} {d : Nat} {m : Wm} {x1 : Int32} (w : WT m) : Ct ad μX5_takeThing (d + 1) [.ref (ad 10), .int x1] m (fun r m' => WT m' ∧ Fx (RS [1]) m m' ∧ ∃ v : Int32, r = some (.int v) ∧ (0 : Int) ≤ v.toInt ∧ v.toInt ≤ 1) := by
  have f : Fx (RS [1]) m m := Fx.rf
  refine v_X5_takeThing Ru_10 ?_
  have tl256 : (256 : Int32).toInt = 256 := rfl
  have tl45 : (45 : Int32).toInt = 45 := rfl
  have tl40 : (40 : Int32).toInt = 40 := rfl
  have tl4 : (4 : Int32).toInt = 4 := rfl
  have tl1 : (1 : Int32).toInt = 1 := rfl
  have tl0 : (0 : Int32).toInt = 0 := rfl
  refine ⟨?_, ?_⟩
  · intro c1
    have k2 := z_ne c1
    refine ⟨?_, ?_⟩
    · intro c3
      have k4 := z_ne c3
      refine (s_X5_isThing w).to ?_
      rintro _ m1 ⟨w_m1, g5, v2, rfl, p6, p7⟩
      have f_m1 : Fx (RS [1]) m m1 := f.tr g5 (RS_sub rfl)
      refine ⟨v2, rfl, ?_⟩
      refine ⟨?_, ?_⟩
      · intro c8
        have k9 := z_ne c8
        refine (s_X5_emit w_m1 (Or.inr rfl)).to ?_
        rintro _ m3 ⟨w_m3, g10, rfl, p11⟩
        have f_m3 : Fx (RS [1]) m m3 := f_m1.tr g10 (RS_sub rfl)
        have p12 : (m3.1 10 6).toInt = ((m1.1 10 6)).toInt := p11
        refine ⟨rfl, ?_⟩
        have w13 : WT (uI m3 10 8 (0 : Int32)) := w_m3.n rfl
        have f13 : Fx (RS [1]) m (uI m3 10 8 (0 : Int32)) := f_m3.i rfl
        exact ⟨w13, f13, _, rfl, (by show (0 : Int) ≤ ((1 : Int32)).toInt; omega), (by show ((1 : Int32)).toInt ≤ 1; omega)⟩
      · intro c14
        have k15 := z_eq c14
        exact ⟨w_m1, f_m1, _, rfl, (by show (0 : Int) ≤ ((0 : Int32)).toInt; omega), (by show ((0 : Int32)).toInt ≤ 1; omega)⟩
    · intro c16
      have k17 := z_eq c16
      refine ⟨?_, ?_⟩
      · intro c18
        have r19 := w.at (a := 10) (k := 6) rfl
        have k20 := z_lt c18
        refine ⟨?_, ?_⟩
        · have t21 := ti_add (x := (m.1 10 6)) (y := (1 : Int32)) (by omega)
          show vp_in ((m.1 10 6) + (1 : Int32)) 5
          exact vpi (by omega) (by omega)
        · have t23 := ti_add (x := (m.1 10 6)) (y := (1 : Int32)) (by omega)
          have w22 : WT (uI m 10 6 ((m.1 10 6) + (1 : Int32))) := w.t rfl (by show (0 : Int) ≤ (((m.1 10 6) + (1 : Int32))).toInt; first | omega | decide) (by show (((m.1 10 6) + (1 : Int32))).toInt ≤ 4; first | omega | decide)
          have f22 : Fx (RS [1]) m (uI m 10 6 ((m.1 10 6) + (1 : Int32))) := f.i rfl
          have w24 : WT (uI (uI m 10 6 ((m.1 10 6) + (1 : Int32))) (10 + 4) (((uI m 10 6 ((m.1 10 6) + (1 : Int32))).1 10 6).toNatClampNeg) (vp_nar .boolean (0 : Int32))) := w22.n rfl
          have f24 : Fx (RS [1]) m (uI (uI m 10 6 ((m.1 10 6) + (1 : Int32))) (10 + 4) (((uI m 10 6 ((m.1 10 6) + (1 : Int32))).1 10 6).toNatClampNeg) (vp_nar .boolean (0 : Int32))) := f22.i rfl
          refine (s_X5_hold w24 (Or.inr rfl)).to ?_
          rintro _ m4 ⟨w_m4, g25, rfl⟩
          have f_m4 : Fx (RS [1]) m m4 := f24.tr g25 (RS_sub rfl)
          refine ⟨rfl, ?_⟩
          exact ⟨w_m4, f_m4, _, rfl, (by show (0 : Int) ≤ ((1 : Int32)).toInt; omega), (by show ((1 : Int32)).toInt ≤ 1; omega)⟩
      · intro c26
        have r27 := w.at (a := 10) (k := 6) rfl
        have k28 := z_nlt c26
        exact ⟨w, f, _, rfl, (by show (0 : Int) ≤ ((0 : Int32)).toInt; omega), (by show ((0 : Int32)).toInt ≤ 1; omega)⟩
  · intro c29
    have k30 := z_eq c29
    refine (s_X5_hold w (Or.inr rfl)).to ?_
    rintro _ m5 ⟨w_m5, g31, rfl⟩
    have f_m5 : Fx (RS [1]) m m5 := f.tr g31 (RS_sub rfl)
    refine ⟨rfl, ?_⟩
    exact ⟨w_m5, f_m5, _, rfl, (by show (0 : Int) ≤ ((1 : Int32)).toInt; omega), (by show ((1 : Int32)).toInt ≤ 1; omega)⟩
theorem s_X5_takeThing {ad : Nat → Nat} {d : Nat} {m : Wm} {b0 : Nat} {x1 : Int32} (w : WT m) (hb0 : b0 = 5 ∨ b0 = 10) : Ct ad μX5_takeThing (d + 1) [.ref (ad b0), .int x1] m (fun r m' => WT m' ∧ Fx (RS [1]) m m' ∧ ∃ v : Int32, r = some (.int v) ∧ (0 : Int) ≤ v.toInt ∧ v.toInt ≤ 1) := by
  rcases hb0 with rfl | rfl
  · exact s_X5_takeThing_5 w
  · exact s_X5_takeThing_10 w
set_option maxHeartbeats 4000000 in
theorem l_X5_takeJoin_5 {ad : Nat → Nat} {d : Nat} {m0 : Wm}  : ∀ n : Nat, (∀ (m : Wm) (x1 x2 : Int32), WT m → Fx (RS [1]) m0 m → 0 * x1.toInt + 1 < (n : Int) → AW ad E0 μX5_takeJoin (d + 2) (fun r m' => WT m' ∧ Fx (RS [1]) m0 m' ∧ ∃ v : Int32, r = some (.int v) ∧ (0 : Int) ≤ v.toInt ∧ v.toInt ≤ 1) 74 [(0, .ref (ad 5)), (1, .int x1), (2, .int x2)] [] m) ∧ (∀ (m : Wm) (x1 x2 : Int32), WT m → Fx (RS [1]) m0 m → 0 * x1.toInt < (n : Int) → AW ad E0 μX5_takeJoin (d + 2) (fun r m' => WT m' ∧ Fx (RS [1]) m0 m' ∧ ∃ v : Int32, r = some (.int v) ∧ (0 : Int) ≤ v.toInt ∧ v.toInt ≤ 1) 89 [(0, .ref (ad 5)), (1, .int x1), (2, .int x2)] [] m) := by
  intro n
  induction n with
  | zero =>
    refine ⟨?_, ?_⟩ <;> intros <;> exfalso <;> omega
  | succ n ih =>
    refine ⟨?_, ?_⟩
    · intro m x1 x2 w f  hn
      refine g_X5_takeJoin_74 Ru_5 ?_
      have tl1 : (1 : Int32).toInt = 1 := rfl
      refine ⟨?_, ?_⟩
      · intro c1
        have k2 := z_ne c1
        exact ih.2 _ _ _ w f (by omega)
      · intro c3
        have k4 := z_eq c3
        refine ⟨?_, ?_⟩
        · have r5 := w.at (a := 5) (k := 6) rfl
          exact vpi (by omega) (by omega)
        · have w6 : WT (uI m (5 + 4) ((m.1 5 6).toNatClampNeg) (vp_nar .boolean (1 : Int32))) := w.n rfl
          have f6 : Fx (RS [1]) m0 (uI m (5 + 4) ((m.1 5 6).toNatClampNeg) (vp_nar .boolean (1 : Int32))) := f.i rfl
          exact ih.2 _ _ _ w6 f6 (by omega)
    · intro m x1 x2 w f  hn
      refine g_X5_takeJoin_89 Ru_5 ?_
      have tl1 : (1 : Int32).toInt = 1 := rfl
      refine (s_X5_release w (Or.inl rfl)).to ?_
      rintro _ m1 ⟨w_m1, g1, rfl, p2⟩
      have f_m1 : Fx (RS [1]) m0 m1 := f.tr g1 (RS_sub rfl)
      have p3 : (m1.1 5 6).toInt = ((m.1 5 6)).toInt := p2
      refine ⟨rfl, ?_⟩
      refine (s_X5_hold w_m1 (Or.inl rfl)).to ?_
      rintro _ m2 ⟨w_m2, g4, rfl⟩
      have f_m2 : Fx (RS [1]) m0 m2 := f_m1.tr g4 (RS_sub rfl)
      refine ⟨rfl, ?_⟩
      have w5 : WT (uI m2 5 8 (1 : Int32)) := w_m2.n rfl
      have f5 : Fx (RS [1]) m0 (uI m2 5 8 (1 : Int32)) := f_m2.i rfl
      exact ⟨w5, f5, _, rfl, (by show (0 : Int) ≤ ((1 : Int32)).toInt; omega), (by show ((1 : Int32)).toInt ≤ 1; omega)⟩
set_option maxHeartbeats 4000000 in
theorem s_X5_takeJoin_5 {ad : Nat → Nat} {d : Nat} {m : Wm} {x1 : Int32} (w : WT m) : Ct ad μX5_takeJoin (d + 2) [.ref (ad 5), .int x1] m (fun r m' => WT m' ∧ Fx (RS [1]) m m' ∧ ∃ v : Int32, r = some (.int v) ∧ (0 : Int) ≤ v.toInt ∧ v.toInt ≤ 1) := by
  have f : Fx (RS [1]) m m := Fx.rf
  refine v_X5_takeJoin Ru_5 ?_
  have tl41 : (41 : Int32).toInt = 41 := rfl
  have tl1 : (1 : Int32).toInt = 1 := rfl
  have tl0 : (0 : Int32).toInt = 0 := rfl
  refine ⟨?_, ?_⟩
  · intro c1
    have k2 := z_ne c1
    refine (s_X5_rank w).to ?_
    rintro _ m1 ⟨w_m1, g3, v2, rfl, p4, p5⟩
    have f_m1 : Fx (RS [1]) m m1 := f.tr g3 (RS_sub rfl)
    refine ⟨v2, rfl, ?_⟩
    refine ⟨?_, ?_⟩
    · intro c6
      have k7 := z_eq c6
      exact ⟨w_m1, f_m1, _, rfl, (by show (0 : Int) ≤ ((0 : Int32)).toInt; omega), (by show ((0 : Int32)).toInt ≤ 1; omega)⟩
    · intro c8
      have k9 := z_ne c8
      refine ⟨?_, ?_⟩
      · intro c10
        have k11 := z_ne c10
        exact (l_X5_takeJoin_5 (m0 := m) 1000000).1 _ _ _ w_m1 f_m1 (by show 0 * (x1).toInt + 1 < _; omega)
      · intro c12
        have k13 := z_eq c12
        refine ⟨?_, ?_⟩
        · have r14 := w_m1.at (a := 5) (k := 6) rfl
          exact vpi (by omega) (by omega)
        · refine ⟨?_, ?_⟩
          · intro c15
            have k16 := z_eq c15
            exact (l_X5_takeJoin_5 (m0 := m) 1000000).1 _ _ _ w_m1 f_m1 (by show 0 * (x1).toInt + 1 < _; omega)
          · intro c17
            have k18 := z_ne c17
            exact ⟨w_m1, f_m1, _, rfl, (by show (0 : Int) ≤ ((0 : Int32)).toInt; omega), (by show ((0 : Int32)).toInt ≤ 1; omega)⟩
  · intro c19
    have k20 := z_eq c19
    refine ⟨?_, ?_⟩
    · intro c21
      have r22 := w.at (a := 5) (k := 6) rfl
      have k23 := z_ne c21
      refine (s_X5_release w (Or.inl rfl)).to ?_
      rintro _ m3 ⟨w_m3, g24, rfl, p25⟩
      have f_m3 : Fx (RS [1]) m m3 := f.tr g24 (RS_sub rfl)
      have p26 : (m3.1 5 6).toInt = ((m.1 5 6)).toInt := p25
      refine ⟨rfl, ?_⟩
      have r28 := w_m3.at (a := 5) (k := 5) rfl
      have t29 := ti_sub (x := (m3.1 5 5)) (y := (1 : Int32)) (by omega)
      have t30 := ti_lt (0 : Int32) ((m3.1 5 5) - (1 : Int32)) ((m3.1 5 5) - (1 : Int32)) (0 : Int32)
      have w27 : WT (uI m3 5 5 (if (0 : Int32) < ((m3.1 5 5) - (1 : Int32)) then ((m3.1 5 5) - (1 : Int32)) else (0 : Int32))) := w_m3.t rfl (by show (0 : Int) ≤ ((if (0 : Int32) < ((m3.1 5 5) - (1 : Int32)) then ((m3.1 5 5) - (1 : Int32)) else (0 : Int32))).toInt; first | omega | decide) (by show ((if (0 : Int32) < ((m3.1 5 5) - (1 : Int32)) then ((m3.1 5 5) - (1 : Int32)) else (0 : Int32))).toInt ≤ 40; first | omega | decide)
      have f27 : Fx (RS [1]) m (uI m3 5 5 (if (0 : Int32) < ((m3.1 5 5) - (1 : Int32)) then ((m3.1 5 5) - (1 : Int32)) else (0 : Int32))) := f_m3.i rfl
      have r32 := w_m3.at (a := 5) (k := 6) rfl
      have t33 := ti_sub (x := (m3.1 5 6)) (y := (1 : Int32)) (by omega)
      have w31 : WT (uI (uI m3 5 5 (if (0 : Int32) < ((m3.1 5 5) - (1 : Int32)) then ((m3.1 5 5) - (1 : Int32)) else (0 : Int32))) 5 6 (((uI m3 5 5 (if (0 : Int32) < ((m3.1 5 5) - (1 : Int32)) then ((m3.1 5 5) - (1 : Int32)) else (0 : Int32))).1 5 6) - (1 : Int32))) := w27.t rfl (by show (0 : Int) ≤ (((m3.1 5 6) - (1 : Int32))).toInt; first | omega | decide) (by show (((m3.1 5 6) - (1 : Int32))).toInt ≤ 4; first | omega | decide)
      have f31 : Fx (RS [1]) m (uI (uI m3 5 5 (if (0 : Int32) < ((m3.1 5 5) - (1 : Int32)) then ((m3.1 5 5) - (1 : Int32)) else (0 : Int32))) 5 6 (((uI m3 5 5 (if (0 : Int32) < ((m3.1 5 5) - (1 : Int32)) then ((m3.1 5 5) - (1 : Int32)) else (0 : Int32))).1 5 6) - (1 : Int32))) := f27.i rfl
      exact ⟨w31, f31, _, rfl, (by show (0 : Int) ≤ ((1 : Int32)).toInt; omega), (by show ((1 : Int32)).toInt ≤ 1; omega)⟩
    · intro c34
      have r35 := w.at (a := 5) (k := 6) rfl
      have k36 := z_eq c34
      exact ⟨w, f, _, rfl, (by show (0 : Int) ≤ ((0 : Int32)).toInt; omega), (by show ((0 : Int32)).toInt ≤ 1; omega)⟩
set_option maxHeartbeats 4000000 in
theorem l_X5_takeJoin_10 {ad : Nat → Nat} {d : Nat} {m0 : Wm}  : ∀ n : Nat, (∀ (m : Wm) (x1 x2 : Int32), WT m → Fx (RS [1]) m0 m → 0 * x1.toInt + 1 < (n : Int) → AW ad E0 μX5_takeJoin (d + 2) (fun r m' => WT m' ∧ Fx (RS [1]) m0 m' ∧ ∃ v : Int32, r = some (.int v) ∧ (0 : Int) ≤ v.toInt ∧ v.toInt ≤ 1) 74 [(0, .ref (ad 10)), (1, .int x1), (2, .int x2)] [] m) ∧ (∀ (m : Wm) (x1 x2 : Int32), WT m → Fx (RS [1]) m0 m → 0 * x1.toInt < (n : Int) → AW ad E0 μX5_takeJoin (d + 2) (fun r m' => WT m' ∧ Fx (RS [1]) m0 m' ∧ ∃ v : Int32, r = some (.int v) ∧ (0 : Int) ≤ v.toInt ∧ v.toInt ≤ 1) 89 [(0, .ref (ad 10)), (1, .int x1), (2, .int x2)] [] m) := by
  intro n
  induction n with
  | zero =>
    refine ⟨?_, ?_⟩ <;> intros <;> exfalso <;> omega
  | succ n ih =>
    refine ⟨?_, ?_⟩
    · intro m x1 x2 w f  hn
      refine g_X5_takeJoin_74 Ru_10 ?_
      have tl1 : (1 : Int32).toInt = 1 := rfl
      refine ⟨?_, ?_⟩
      · intro c1
        have k2 := z_ne c1
        exact ih.2 _ _ _ w f (by omega)
      · intro c3
        have k4 := z_eq c3
        refine ⟨?_, ?_⟩
        · have r5 := w.at (a := 10) (k := 6) rfl
          exact vpi (by omega) (by omega)
        · have w6 : WT (uI m (10 + 4) ((m.1 10 6).toNatClampNeg) (vp_nar .boolean (1 : Int32))) := w.n rfl
          have f6 : Fx (RS [1]) m0 (uI m (10 + 4) ((m.1 10 6).toNatClampNeg) (vp_nar .boolean (1 : Int32))) := f.i rfl
          exact ih.2 _ _ _ w6 f6 (by omega)
    · intro m x1 x2 w f  hn
      refine g_X5_takeJoin_89 Ru_10 ?_
      have tl1 : (1 : Int32).toInt = 1 := rfl
      refine (s_X5_release w (Or.inr rfl)).to ?_
      rintro _ m1 ⟨w_m1, g1, rfl, p2⟩
      have f_m1 : Fx (RS [1]) m0 m1 := f.tr g1 (RS_sub rfl)
      have p3 : (m1.1 10 6).toInt = ((m.1 10 6)).toInt := p2
      refine ⟨rfl, ?_⟩
      refine (s_X5_hold w_m1 (Or.inr rfl)).to ?_
      rintro _ m2 ⟨w_m2, g4, rfl⟩
      have f_m2 : Fx (RS [1]) m0 m2 := f_m1.tr g4 (RS_sub rfl)
      refine ⟨rfl, ?_⟩
      have w5 : WT (uI m2 10 8 (1 : Int32)) := w_m2.n rfl
      have f5 : Fx (RS [1]) m0 (uI m2 10 8 (1 : Int32)) := f_m2.i rfl
      exact ⟨w5, f5, _, rfl, (by show (0 : Int) ≤ ((1 : Int32)).toInt; omega), (by show ((1 : Int32)).toInt ≤ 1; omega)⟩
set_option maxHeartbeats 4000000 in
theorem s_X5_takeJoin_10 {ad : Nat → Nat} {d : Nat} {m : Wm} {x1 : Int32} (w : WT m) : Ct ad μX5_takeJoin (d + 2) [.ref (ad 10), .int x1] m (fun r m' => WT m' ∧ Fx (RS [1]) m m' ∧ ∃ v : Int32, r = some (.int v) ∧ (0 : Int) ≤ v.toInt ∧ v.toInt ≤ 1) := by
  have f : Fx (RS [1]) m m := Fx.rf
  refine v_X5_takeJoin Ru_10 ?_
  have tl41 : (41 : Int32).toInt = 41 := rfl
  have tl1 : (1 : Int32).toInt = 1 := rfl
  have tl0 : (0 : Int32).toInt = 0 := rfl
  refine ⟨?_, ?_⟩
  · intro c1
    have k2 := z_ne c1
    refine (s_X5_rank w).to ?_
    rintro _ m1 ⟨w_m1, g3, v2, rfl, p4, p5⟩
    have f_m1 : Fx (RS [1]) m m1 := f.tr g3 (RS_sub rfl)
    refine ⟨v2, rfl, ?_⟩
    refine ⟨?_, ?_⟩
    · intro c6
      have k7 := z_eq c6
      exact ⟨w_m1, f_m1, _, rfl, (by show (0 : Int) ≤ ((0 : Int32)).toInt; omega), (by show ((0 : Int32)).toInt ≤ 1; omega)⟩
    · intro c8
      have k9 := z_ne c8
      refine ⟨?_, ?_⟩
      · intro c10
        have k11 := z_ne c10
        exact (l_X5_takeJoin_10 (m0 := m) 1000000).1 _ _ _ w_m1 f_m1 (by show 0 * (x1).toInt + 1 < _; omega)
      · intro c12
        have k13 := z_eq c12
        refine ⟨?_, ?_⟩
        · have r14 := w_m1.at (a := 10) (k := 6) rfl
          exact vpi (by omega) (by omega)
        · refine ⟨?_, ?_⟩
          · intro c15
            have k16 := z_eq c15
            exact (l_X5_takeJoin_10 (m0 := m) 1000000).1 _ _ _ w_m1 f_m1 (by show 0 * (x1).toInt + 1 < _; omega)
          · intro c17
            have k18 := z_ne c17
            exact ⟨w_m1, f_m1, _, rfl, (by show (0 : Int) ≤ ((0 : Int32)).toInt; omega), (by show ((0 : Int32)).toInt ≤ 1; omega)⟩
  · intro c19
    have k20 := z_eq c19
    refine ⟨?_, ?_⟩
    · intro c21
      have r22 := w.at (a := 10) (k := 6) rfl
      have k23 := z_ne c21
      refine (s_X5_release w (Or.inr rfl)).to ?_
      rintro _ m3 ⟨w_m3, g24, rfl, p25⟩
      have f_m3 : Fx (RS [1]) m m3 := f.tr g24 (RS_sub rfl)
      have p26 : (m3.1 10 6).toInt = ((m.1 10 6)).toInt := p25
      refine ⟨rfl, ?_⟩
      have r28 := w_m3.at (a := 10) (k := 5) rfl
      have t29 := ti_sub (x := (m3.1 10 5)) (y := (1 : Int32)) (by omega)
      have t30 := ti_lt (0 : Int32) ((m3.1 10 5) - (1 : Int32)) ((m3.1 10 5) - (1 : Int32)) (0 : Int32)
      have w27 : WT (uI m3 10 5 (if (0 : Int32) < ((m3.1 10 5) - (1 : Int32)) then ((m3.1 10 5) - (1 : Int32)) else (0 : Int32))) := w_m3.t rfl (by show (0 : Int) ≤ ((if (0 : Int32) < ((m3.1 10 5) - (1 : Int32)) then ((m3.1 10 5) - (1 : Int32)) else (0 : Int32))).toInt; first | omega | decide) (by show ((if (0 : Int32) < ((m3.1 10 5) - (1 : Int32)) then ((m3.1 10 5) - (1 : Int32)) else (0 : Int32))).toInt ≤ 40; first | omega | decide)
      have f27 : Fx (RS [1]) m (uI m3 10 5 (if (0 : Int32) < ((m3.1 10 5) - (1 : Int32)) then ((m3.1 10 5) - (1 : Int32)) else (0 : Int32))) := f_m3.i rfl
      have r32 := w_m3.at (a := 10) (k := 6) rfl
      have t33 := ti_sub (x := (m3.1 10 6)) (y := (1 : Int32)) (by omega)
      have w31 : WT (uI (uI m3 10 5 (if (0 : Int32) < ((m3.1 10 5) - (1 : Int32)) then ((m3.1 10 5) - (1 : Int32)) else (0 : Int32))) 10 6 (((uI m3 10 5 (if (0 : Int32) < ((m3.1 10 5) - (1 : Int32)) then ((m3.1 10 5) - (1 : Int32)) else (0 : Int32))).1 10 6) - (1 : Int32))) := w27.t rfl (by show (0 : Int) ≤ (((m3.1 10 6) - (1 : Int32))).toInt; first | omega | decide) (by show (((m3.1 10 6) - (1 : Int32))).toInt ≤ 4; first | omega | decide)
      have f31 : Fx (RS [1]) m (uI (uI m3 10 5 (if (0 : Int32) < ((m3.1 10 5) - (1 : Int32)) then ((m3.1 10 5) - (1 : Int32)) else (0 : Int32))) 10 6 (((uI m3 10 5 (if (0 : Int32) < ((m3.1 10 5) - (1 : Int32)) then ((m3.1 10 5) - (1 : Int32)) else (0 : Int32))).1 10 6) - (1 : Int32))) := f27.i rfl
      exact ⟨w31, f31, _, rfl, (by show (0 : Int) ≤ ((1 : Int32)).toInt; omega), (by show ((1 : Int32)).toInt ≤ 1; omega)⟩
    · intro c34
      have r35 := w.at (a := 10) (k := 6) rfl
      have k36 := z_eq c34
      exact ⟨w, f, _, rfl, (by show (0 : Int) ≤ ((0 : Int32)).toInt; omega), (by show ((0 : Int32)).toInt ≤ 1; omega)⟩
theorem s_X5_takeJoin {ad : Nat → Nat} {d : Nat} {m : Wm} {b0 : Nat} {x1 : Int32} (w : WT m) (hb0 : b0 = 5 ∨ b0 = 10) : Ct ad μX5_takeJoin (d + 2) [.ref (ad b0), .int x1] m (fun r m' => WT m' ∧ Fx (RS [1]) m m' ∧ ∃ v : Int32, r = some (.int v) ∧ (0 : Int) ≤ v.toInt ∧ v.toInt ≤ 1) := by
  rcases hb0 with rfl | rfl
  · exact s_X5_takeJoin_5 w
  · exact s_X5_takeJoin_10 w
set_option maxHeartbeats 4000000 in
theorem l_X5_take_5 {ad : Nat → Nat} {d : Nat} {m0 : Wm}  : ∀ n : Nat, (∀ (m : Wm) (x1 : Int32), WT m → Fx (RS [1]) m0 m → 0 * x1.toInt < (n : Int) → AW ad E0 μX5_take (d + 3) (fun r m' => WT m' ∧ Fx (RS [1]) m0 m' ∧ ∃ v : Int32, r = some (.int v) ∧ (0 : Int) ≤ v.toInt ∧ v.toInt ≤ 1) 21 [(0, .ref (ad 5)), (1, .int x1)] [] m) := by
  intro n
  induction n with
  | zero =>
    intros
    exfalso
    omega
  | succ n ih =>
    intro m x1 w f  hn
    refine g_X5_take_21 Ru_5 ?_
    have tl0 : (0 : Int32).toInt = 0 := rfl
    refine ⟨?_, ?_⟩
    · intro c1
      have c2 : (m.1 5 8) = (0 : Int32) := c1
      have k3 := z_eq c2
      have w4 : WT (uI m 5 7 (0 : Int32)) := w.n rfl
      have f4 : Fx (RS [1]) m0 (uI m 5 7 (0 : Int32)) := f.i rfl
      refine (s_X5_takeJoin w4 (Or.inl rfl)).to ?_
      rintro _ m1 ⟨w_m1, g5, v2, rfl, p6, p7⟩
      have f_m1 : Fx (RS [1]) m0 m1 := f4.tr g5 (RS_sub rfl)
      refine ⟨v2, rfl, ?_⟩
      refine ⟨?_, ?_⟩
      · exact bz_of (by omega) (by omega)
      · exact ⟨w_m1, f_m1, _, rfl, (by show (0 : Int) ≤ (v2).toInt; omega), (by show (v2).toInt ≤ 1; omega)⟩
    · intro c8
      have c9 : ¬ (m.1 5 8) = (0 : Int32) := c8
      have k10 := z_ne c9
      have w11 : WT (uI m 5 7 (0 : Int32)) := w.n rfl
      have f11 : Fx (RS [1]) m0 (uI m 5 7 (0 : Int32)) := f.i rfl
      refine (s_X5_takeThing w11 (Or.inl rfl)).to ?_
      rintro _ m3 ⟨w_m3, g12, v4, rfl, p13, p14⟩
      have f_m3 : Fx (RS [1]) m0 m3 := f11.tr g12 (RS_sub rfl)
      refine ⟨v4, rfl, ?_⟩
      refine ⟨?_, ?_⟩
      · exact bz_of (by omega) (by omega)
      · exact ⟨w_m3, f_m3, _, rfl, (by show (0 : Int) ≤ (v4).toInt; omega), (by show (v4).toInt ≤ 1; omega)⟩
set_option maxHeartbeats 4000000 in
theorem s_X5_take_5 {ad : Nat → Nat} {d : Nat} {m : Wm} {x1 : Int32} (w : WT m) : Ct ad μX5_take (d + 3) [.ref (ad 5), .int x1] m (fun r m' => WT m' ∧ Fx (RS [1]) m m' ∧ ∃ v : Int32, r = some (.int v) ∧ (0 : Int) ≤ v.toInt ∧ v.toInt ≤ 1) := by
  have f : Fx (RS [1]) m m := Fx.rf
  refine v_X5_take Ru_5 ?_
  have tl57 : (57 : Int32).toInt = 57 := rfl
  have tl48 : (48 : Int32).toInt = 48 := rfl
  refine ⟨?_, ?_⟩
  · intro c1
    have k2 := z_lt c1
    exact (l_X5_take_5 (m0 := m) 1000000) _ _ w f (by show 0 * (x1).toInt < _; omega)
  · intro c3
    have k4 := z_nlt c3
    refine ⟨?_, ?_⟩
    · intro c5
      have k6 := z_lt c5
      exact (l_X5_take_5 (m0 := m) 1000000) _ _ w f (by show 0 * (x1).toInt < _; omega)
    · intro c7
      have k8 := z_nlt c7
      refine (s_X5_takeDigit w (Or.inl rfl)).to ?_
      rintro _ m1 ⟨w_m1, g9, v2, rfl, p10, p11⟩
      have f_m1 : Fx (RS [1]) m m1 := f.tr g9 (RS_sub rfl)
      refine ⟨v2, rfl, ?_⟩
      refine ⟨?_, ?_⟩
      · exact bz_of (by omega) (by omega)
      · exact ⟨w_m1, f_m1, _, rfl, (by show (0 : Int) ≤ (v2).toInt; omega), (by show (v2).toInt ≤ 1; omega)⟩
set_option maxHeartbeats 4000000 in
theorem l_X5_take_10 {ad : Nat → Nat} {d : Nat} {m0 : Wm}  : ∀ n : Nat, (∀ (m : Wm) (x1 : Int32), WT m → Fx (RS [1]) m0 m → 0 * x1.toInt < (n : Int) → AW ad E0 μX5_take (d + 3) (fun r m' => WT m' ∧ Fx (RS [1]) m0 m' ∧ ∃ v : Int32, r = some (.int v) ∧ (0 : Int) ≤ v.toInt ∧ v.toInt ≤ 1) 21 [(0, .ref (ad 10)), (1, .int x1)] [] m) := by
  intro n
  induction n with
  | zero =>
    intros
    exfalso
    omega
  | succ n ih =>
    intro m x1 w f  hn
    refine g_X5_take_21 Ru_10 ?_
    have tl0 : (0 : Int32).toInt = 0 := rfl
    refine ⟨?_, ?_⟩
    · intro c1
      have c2 : (m.1 10 8) = (0 : Int32) := c1
      have k3 := z_eq c2
      have w4 : WT (uI m 10 7 (0 : Int32)) := w.n rfl
      have f4 : Fx (RS [1]) m0 (uI m 10 7 (0 : Int32)) := f.i rfl
      refine (s_X5_takeJoin w4 (Or.inr rfl)).to ?_
      rintro _ m1 ⟨w_m1, g5, v2, rfl, p6, p7⟩
      have f_m1 : Fx (RS [1]) m0 m1 := f4.tr g5 (RS_sub rfl)
      refine ⟨v2, rfl, ?_⟩
      refine ⟨?_, ?_⟩
      · exact bz_of (by omega) (by omega)
      · exact ⟨w_m1, f_m1, _, rfl, (by show (0 : Int) ≤ (v2).toInt; omega), (by show (v2).toInt ≤ 1; omega)⟩
    · intro c8
      have c9 : ¬ (m.1 10 8) = (0 : Int32) := c8
      have k10 := z_ne c9
      have w11 : WT (uI m 10 7 (0 : Int32)) := w.n rfl
      have f11 : Fx (RS [1]) m0 (uI m 10 7 (0 : Int32)) := f.i rfl
      refine (s_X5_takeThing w11 (Or.inr rfl)).to ?_
      rintro _ m3 ⟨w_m3, g12, v4, rfl, p13, p14⟩
      have f_m3 : Fx (RS [1]) m0 m3 := f11.tr g12 (RS_sub rfl)
      refine ⟨v4, rfl, ?_⟩
      refine ⟨?_, ?_⟩
      · exact bz_of (by omega) (by omega)
      · exact ⟨w_m3, f_m3, _, rfl, (by show (0 : Int) ≤ (v4).toInt; omega), (by show (v4).toInt ≤ 1; omega)⟩
set_option maxHeartbeats 4000000 in
theorem s_X5_take_10 {ad : Nat → Nat} {d : Nat} {m : Wm} {x1 : Int32} (w : WT m) : Ct ad μX5_take (d + 3) [.ref (ad 10), .int x1] m (fun r m' => WT m' ∧ Fx (RS [1]) m m' ∧ ∃ v : Int32, r = some (.int v) ∧ (0 : Int) ≤ v.toInt ∧ v.toInt ≤ 1) := by
  have f : Fx (RS [1]) m m := Fx.rf
  refine v_X5_take Ru_10 ?_
  have tl57 : (57 : Int32).toInt = 57 := rfl
  have tl48 : (48 : Int32).toInt = 48 := rfl
  refine ⟨?_, ?_⟩
  · intro c1
    have k2 := z_lt c1
    exact (l_X5_take_10 (m0 := m) 1000000) _ _ w f (by show 0 * (x1).toInt < _; omega)
  · intro c3
    have k4 := z_nlt c3
    refine ⟨?_, ?_⟩
    · intro c5
      have k6 := z_lt c5
      exact (l_X5_take_10 (m0 := m) 1000000) _ _ w f (by show 0 * (x1).toInt < _; omega)
    · intro c7
      have k8 := z_nlt c7
      refine (s_X5_takeDigit w (Or.inr rfl)).to ?_
      rintro _ m1 ⟨w_m1, g9, v2, rfl, p10, p11⟩
      have f_m1 : Fx (RS [1]) m m1 := f.tr g9 (RS_sub rfl)
      refine ⟨v2, rfl, ?_⟩
      refine ⟨?_, ?_⟩
      · exact bz_of (by omega) (by omega)
      · exact ⟨w_m1, f_m1, _, rfl, (by show (0 : Int) ≤ (v2).toInt; omega), (by show (v2).toInt ≤ 1; omega)⟩
theorem s_X5_take {ad : Nat → Nat} {d : Nat} {m : Wm} {b0 : Nat} {x1 : Int32} (w : WT m) (hb0 : b0 = 5 ∨ b0 = 10) : Ct ad μX5_take (d + 3) [.ref (ad b0), .int x1] m (fun r m' => WT m' ∧ Fx (RS [1]) m m' ∧ ∃ v : Int32, r = some (.int v) ∧ (0 : Int) ≤ v.toInt ∧ v.toInt ≤ 1) := by
  rcases hb0 with rfl | rfl
  · exact s_X5_take_5 w
  · exact s_X5_take_10 w
set_option maxHeartbeats 4000000 in
theorem l_X5_compile_5 {ad : Nat → Nat} {d : Nat} {m0 : Wm}  : ∀ n : Nat, (∀ (m : Wm) (x2 x3 : Int32), WT m → Fx (RS [1]) m0 m → (0 : Int) ≤ x2.toInt → x2.toInt ≤ (40 : Int) → (0 : Int) ≤ x3.toInt → x3.toInt ≤ (40 : Int) → 40 - x3.toInt < (n : Int) → AW ad E0 μX5_compile (d + 4) (fun r m' => WT m' ∧ Fx (RS [1]) m0 m' ∧ ∃ v : Int32, r = some (.int v)) 53 [(0, .ref (ad 5)), (1, .ref (ad 1)), (2, .int x2), (3, .int x3)] [] m) := by
  intro n
  induction n with
  | zero =>
    intros
    exfalso
    omega
  | succ n ih =>
    intro m x2 x3 w f j1 j2 j3 j4 hn
    refine g_X5_compile_53 Ru_5 ?_
    have tl40 : (40 : Int32).toInt = 40 := rfl
    have tl1 : (1 : Int32).toInt = 1 := rfl
    have tl0 : (0 : Int32).toInt = 0 := rfl
    have tlm1 : (-1 : Int32).toInt = -1 := rfl
    refine ⟨?_, ?_⟩
    · intro c1
      have k2 := z_le c1
      refine ⟨?_, ?_⟩
      · intro c3
        have r4 := w.at (a := 1) (k := 1) rfl
        have k5 := z_lt c3
        exact ⟨w, f, _, rfl⟩
      · intro c6
        have r7 := w.at (a := 1) (k := 1) rfl
        have k8 := z_nlt c6
        refine ⟨?_, ?_⟩
        · intro c9
          have k10 := z_ne c9
          exact ⟨w, f, _, rfl⟩
        · intro c11
          have k12 := z_eq c11
          refine ⟨?_, ?_⟩
          · intro c13
            have r14 := w.at (a := 5) (k := 6) rfl
            have k15 := z_le c13
            refine (s_X5_release w (Or.inl rfl)).to ?_
            rintro _ m1 ⟨w_m1, g16, rfl, p17⟩
            have f_m1 : Fx (RS [1]) m0 m1 := f.tr g16 (RS_sub rfl)
            have p18 : (m1.1 5 6).toInt = ((m.1 5 6)).toInt := p17
            refine ⟨rfl, ?_⟩
            exact ⟨w_m1, f_m1, _, rfl⟩
          · intro c19
            have r20 := w.at (a := 5) (k := 6) rfl
            have k21 := z_nle c19
            exact ⟨w, f, _, rfl⟩
    · intro c22
      have k23 := z_nle c22
      refine ⟨?_, ?_⟩
      · exact vpi (by omega) (by omega)
      · refine (s_X5_take w (Or.inl rfl)).to ?_
        rintro _ m2 ⟨w_m2, g24, v3, rfl, p25, p26⟩
        have f_m2 : Fx (RS [1]) m0 m2 := f.tr g24 (RS_sub rfl)
        refine ⟨v3, rfl, ?_⟩
        refine ⟨?_, ?_⟩
        · intro c27
          have k28 := z_ne c27
          have t29 := ti_add (x := x3) (y := (1 : Int32)) (by omega)
          exact ih _ _ _ w_m2 f_m2 (by show (0 : Int) ≤ (x2).toInt; omega) (by show (x2).toInt ≤ (40 : Int); omega) (by show (0 : Int) ≤ ((x3 + (1 : Int32))).toInt; omega) (by show ((x3 + (1 : Int32))).toInt ≤ (40 : Int); omega) (by omega)
        · intro c30
          have k31 := z_eq c30
          exact ⟨w_m2, f_m2, _, rfl⟩
set_option maxHeartbeats 4000000 in
theorem s_X5_compile_5 {ad : Nat → Nat} {d : Nat} {m : Wm} (w : WT m) : Ct ad μX5_compile (d + 4) [.ref (ad 5), .ref (ad 1)] m (fun r m' => WT m' ∧ Fx (RS [1]) m m' ∧ ∃ v : Int32, r = some (.int v)) := by
  have f : Fx (RS [1]) m m := Fx.rf
  refine v_X5_compile Ru_5 ?_
  have tl40 : (40 : Int32).toInt = 40 := rfl
  have tl0 : (0 : Int32).toInt = 0 := rfl
  have tlm1 : (-1 : Int32).toInt = -1 := rfl
  refine ⟨?_, ?_⟩
  · intro c1
    have r2 := w.at (a := 1) (k := 1) rfl
    have c3 : ¬ (m.1 1 1) = (0 : Int32) := c1
    have k4 := z_ne c3
    have w5 : WT (uI m 5 4 (0 : Int32)) := w.t rfl (by show (0 : Int) ≤ ((0 : Int32)).toInt; first | omega | decide) (by show ((0 : Int32)).toInt ≤ 40; first | omega | decide)
    have f5 : Fx (RS [1]) m (uI m 5 4 (0 : Int32)) := f.i rfl
    have w6 : WT (uI (uI m 5 4 (0 : Int32)) 5 5 (0 : Int32)) := w5.t rfl (by show (0 : Int) ≤ ((0 : Int32)).toInt; first | omega | decide) (by show ((0 : Int32)).toInt ≤ 40; first | omega | decide)
    have f6 : Fx (RS [1]) m (uI (uI m 5 4 (0 : Int32)) 5 5 (0 : Int32)) := f5.i rfl
    have w7 : WT (uI (uI (uI m 5 4 (0 : Int32)) 5 5 (0 : Int32)) 5 6 (0 : Int32)) := w6.t rfl (by show (0 : Int) ≤ ((0 : Int32)).toInt; first | omega | decide) (by show ((0 : Int32)).toInt ≤ 4; first | omega | decide)
    have f7 : Fx (RS [1]) m (uI (uI (uI m 5 4 (0 : Int32)) 5 5 (0 : Int32)) 5 6 (0 : Int32)) := f6.i rfl
    have w8 : WT (uI (uI (uI (uI m 5 4 (0 : Int32)) 5 5 (0 : Int32)) 5 6 (0 : Int32)) 5 7 (0 : Int32)) := w7.n rfl
    have f8 : Fx (RS [1]) m (uI (uI (uI (uI m 5 4 (0 : Int32)) 5 5 (0 : Int32)) 5 6 (0 : Int32)) 5 7 (0 : Int32)) := f7.i rfl
    have w9 : WT (uI (uI (uI (uI (uI m 5 4 (0 : Int32)) 5 5 (0 : Int32)) 5 6 (0 : Int32)) 5 7 (0 : Int32)) 5 8 (1 : Int32)) := w8.n rfl
    have f9 : Fx (RS [1]) m (uI (uI (uI (uI (uI m 5 4 (0 : Int32)) 5 5 (0 : Int32)) 5 6 (0 : Int32)) 5 7 (0 : Int32)) 5 8 (1 : Int32)) := f8.i rfl
    have w10 : WT (uI (uI (uI (uI (uI (uI m 5 4 (0 : Int32)) 5 5 (0 : Int32)) 5 6 (0 : Int32)) 5 7 (0 : Int32)) 5 8 (1 : Int32)) (5 + 4) ((0 : Int32).toNatClampNeg) (vp_nar .boolean (0 : Int32))) := w9.n rfl
    have f10 : Fx (RS [1]) m (uI (uI (uI (uI (uI (uI m 5 4 (0 : Int32)) 5 5 (0 : Int32)) 5 6 (0 : Int32)) 5 7 (0 : Int32)) 5 8 (1 : Int32)) (5 + 4) ((0 : Int32).toNatClampNeg) (vp_nar .boolean (0 : Int32))) := f9.i rfl
    have t11 := ti_lt (40 : Int32) (m.1 1 1) (40 : Int32) (m.1 1 1)
    exact (l_X5_compile_5 (m0 := m) 1000000) _ _ _ w10 f10 (by show (0 : Int) ≤ ((if (40 : Int32) < (m.1 1 1) then (40 : Int32) else (m.1 1 1))).toInt; omega) (by show ((if (40 : Int32) < (m.1 1 1) then (40 : Int32) else (m.1 1 1))).toInt ≤ (40 : Int); omega) (by show (0 : Int) ≤ ((0 : Int32)).toInt; omega) (by show ((0 : Int32)).toInt ≤ (40 : Int); omega) (by show 40 - ((0 : Int32)).toInt < _; omega)
  · intro c12
    have r13 := w.at (a := 1) (k := 1) rfl
    have c14 : (m.1 1 1) = (0 : Int32) := c12
    have k15 := z_eq c14
    have w16 : WT (uI m 5 4 (0 : Int32)) := w.t rfl (by show (0 : Int) ≤ ((0 : Int32)).toInt; first | omega | decide) (by show ((0 : Int32)).toInt ≤ 40; first | omega | decide)
    have f16 : Fx (RS [1]) m (uI m 5 4 (0 : Int32)) := f.i rfl
    have w17 : WT (uI (uI m 5 4 (0 : Int32)) 5 5 (0 : Int32)) := w16.t rfl (by show (0 : Int) ≤ ((0 : Int32)).toInt; first | omega | decide) (by show ((0 : Int32)).toInt ≤ 40; first | omega | decide)
    have f17 : Fx (RS [1]) m (uI (uI m 5 4 (0 : Int32)) 5 5 (0 : Int32)) := f16.i rfl
    have w18 : WT (uI (uI (uI m 5 4 (0 : Int32)) 5 5 (0 : Int32)) 5 6 (0 : Int32)) := w17.t rfl (by show (0 : Int) ≤ ((0 : Int32)).toInt; first | omega | decide) (by show ((0 : Int32)).toInt ≤ 4; first | omega | decide)
    have f18 : Fx (RS [1]) m (uI (uI (uI m 5 4 (0 : Int32)) 5 5 (0 : Int32)) 5 6 (0 : Int32)) := f17.i rfl
    have w19 : WT (uI (uI (uI (uI m 5 4 (0 : Int32)) 5 5 (0 : Int32)) 5 6 (0 : Int32)) 5 7 (0 : Int32)) := w18.n rfl
    have f19 : Fx (RS [1]) m (uI (uI (uI (uI m 5 4 (0 : Int32)) 5 5 (0 : Int32)) 5 6 (0 : Int32)) 5 7 (0 : Int32)) := f18.i rfl
    have w20 : WT (uI (uI (uI (uI (uI m 5 4 (0 : Int32)) 5 5 (0 : Int32)) 5 6 (0 : Int32)) 5 7 (0 : Int32)) 5 8 (1 : Int32)) := w19.n rfl
    have f20 : Fx (RS [1]) m (uI (uI (uI (uI (uI m 5 4 (0 : Int32)) 5 5 (0 : Int32)) 5 6 (0 : Int32)) 5 7 (0 : Int32)) 5 8 (1 : Int32)) := f19.i rfl
    have w21 : WT (uI (uI (uI (uI (uI (uI m 5 4 (0 : Int32)) 5 5 (0 : Int32)) 5 6 (0 : Int32)) 5 7 (0 : Int32)) 5 8 (1 : Int32)) (5 + 4) ((0 : Int32).toNatClampNeg) (vp_nar .boolean (0 : Int32))) := w20.n rfl
    have f21 : Fx (RS [1]) m (uI (uI (uI (uI (uI (uI m 5 4 (0 : Int32)) 5 5 (0 : Int32)) 5 6 (0 : Int32)) 5 7 (0 : Int32)) 5 8 (1 : Int32)) (5 + 4) ((0 : Int32).toNatClampNeg) (vp_nar .boolean (0 : Int32))) := f20.i rfl
    exact ⟨w21, f21, _, rfl⟩
set_option maxHeartbeats 4000000 in
theorem l_X5_compile_10 {ad : Nat → Nat} {d : Nat} {m0 : Wm}  : ∀ n : Nat, (∀ (m : Wm) (x2 x3 : Int32), WT m → Fx (RS [1]) m0 m → (0 : Int) ≤ x2.toInt → x2.toInt ≤ (40 : Int) → (0 : Int) ≤ x3.toInt → x3.toInt ≤ (40 : Int) → 40 - x3.toInt < (n : Int) → AW ad E0 μX5_compile (d + 4) (fun r m' => WT m' ∧ Fx (RS [1]) m0 m' ∧ ∃ v : Int32, r = some (.int v)) 53 [(0, .ref (ad 10)), (1, .ref (ad 1)), (2, .int x2), (3, .int x3)] [] m) := by
  intro n
  induction n with
  | zero =>
    intros
    exfalso
    omega
  | succ n ih =>
    intro m x2 x3 w f j1 j2 j3 j4 hn
    refine g_X5_compile_53 Ru_10 ?_
    have tl40 : (40 : Int32).toInt = 40 := rfl
    have tl1 : (1 : Int32).toInt = 1 := rfl
    have tl0 : (0 : Int32).toInt = 0 := rfl
    have tlm1 : (-1 : Int32).toInt = -1 := rfl
    refine ⟨?_, ?_⟩
    · intro c1
      have k2 := z_le c1
      refine ⟨?_, ?_⟩
      · intro c3
        have r4 := w.at (a := 1) (k := 1) rfl
        have k5 := z_lt c3
        exact ⟨w, f, _, rfl⟩
      · intro c6
        have r7 := w.at (a := 1) (k := 1) rfl
        have k8 := z_nlt c6
        refine ⟨?_, ?_⟩
        · intro c9
          have k10 := z_ne c9
          exact ⟨w, f, _, rfl⟩
        · intro c11
          have k12 := z_eq c11
          refine ⟨?_, ?_⟩
          · intro c13
            have r14 := w.at (a := 10) (k := 6) rfl
            have k15 := z_le c13
            refine (s_X5_release w (Or.inr rfl)).to ?_
            rintro _ m1 ⟨w_m1, g16, rfl, p17⟩
            have f_m1 : Fx (RS [1]) m0 m1 := f.tr g16 (RS_sub rfl)
            have p18 : (m1.1 10 6).toInt = ((m.1 10 6)).toInt := p17
            refine ⟨rfl, ?_⟩
            exact ⟨w_m1, f_m1, _, rfl⟩
          · intro c19
            have r20 := w.at (a := 10) (k := 6) rfl
            have k21 := z_nle c19
            exact ⟨w, f, _, rfl⟩
    · intro c22
      have k23 := z_nle c22
      refine ⟨?_, ?_⟩
      · exact vpi (by omega) (by omega)
      · refine (s_X5_take w (Or.inr rfl)).to ?_
        rintro _ m2 ⟨w_m2, g24, v3, rfl, p25, p26⟩
        have f_m2 : Fx (RS [1]) m0 m2 := f.tr g24 (RS_sub rfl)
        refine ⟨v3, rfl, ?_⟩
        refine ⟨?_, ?_⟩
        · intro c27
          have k28 := z_ne c27
          have t29 := ti_add (x := x3) (y := (1 : Int32)) (by omega)
          exact ih _ _ _ w_m2 f_m2 (by show (0 : Int) ≤ (x2).toInt; omega) (by show (x2).toInt ≤ (40 : Int); omega) (by show (0 : Int) ≤ ((x3 + (1 : Int32))).toInt; omega) (by show ((x3 + (1 : Int32))).toInt ≤ (40 : Int); omega) (by omega)
        · intro c30
          have k31 := z_eq c30
          exact ⟨w_m2, f_m2, _, rfl⟩
set_option maxHeartbeats 4000000 in
theorem s_X5_compile_10 {ad : Nat → Nat} {d : Nat} {m : Wm} (w : WT m) : Ct ad μX5_compile (d + 4) [.ref (ad 10), .ref (ad 1)] m (fun r m' => WT m' ∧ Fx (RS [1]) m m' ∧ ∃ v : Int32, r = some (.int v)) := by
  have f : Fx (RS [1]) m m := Fx.rf
  refine v_X5_compile Ru_10 ?_
  have tl40 : (40 : Int32).toInt = 40 := rfl
  have tl0 : (0 : Int32).toInt = 0 := rfl
  have tlm1 : (-1 : Int32).toInt = -1 := rfl
  refine ⟨?_, ?_⟩
  · intro c1
    have r2 := w.at (a := 1) (k := 1) rfl
    have c3 : ¬ (m.1 1 1) = (0 : Int32) := c1
    have k4 := z_ne c3
    have w5 : WT (uI m 10 4 (0 : Int32)) := w.t rfl (by show (0 : Int) ≤ ((0 : Int32)).toInt; first | omega | decide) (by show ((0 : Int32)).toInt ≤ 40; first | omega | decide)
    have f5 : Fx (RS [1]) m (uI m 10 4 (0 : Int32)) := f.i rfl
    have w6 : WT (uI (uI m 10 4 (0 : Int32)) 10 5 (0 : Int32)) := w5.t rfl (by show (0 : Int) ≤ ((0 : Int32)).toInt; first | omega | decide) (by show ((0 : Int32)).toInt ≤ 40; first | omega | decide)
    have f6 : Fx (RS [1]) m (uI (uI m 10 4 (0 : Int32)) 10 5 (0 : Int32)) := f5.i rfl
    have w7 : WT (uI (uI (uI m 10 4 (0 : Int32)) 10 5 (0 : Int32)) 10 6 (0 : Int32)) := w6.t rfl (by show (0 : Int) ≤ ((0 : Int32)).toInt; first | omega | decide) (by show ((0 : Int32)).toInt ≤ 4; first | omega | decide)
    have f7 : Fx (RS [1]) m (uI (uI (uI m 10 4 (0 : Int32)) 10 5 (0 : Int32)) 10 6 (0 : Int32)) := f6.i rfl
    have w8 : WT (uI (uI (uI (uI m 10 4 (0 : Int32)) 10 5 (0 : Int32)) 10 6 (0 : Int32)) 10 7 (0 : Int32)) := w7.n rfl
    have f8 : Fx (RS [1]) m (uI (uI (uI (uI m 10 4 (0 : Int32)) 10 5 (0 : Int32)) 10 6 (0 : Int32)) 10 7 (0 : Int32)) := f7.i rfl
    have w9 : WT (uI (uI (uI (uI (uI m 10 4 (0 : Int32)) 10 5 (0 : Int32)) 10 6 (0 : Int32)) 10 7 (0 : Int32)) 10 8 (1 : Int32)) := w8.n rfl
    have f9 : Fx (RS [1]) m (uI (uI (uI (uI (uI m 10 4 (0 : Int32)) 10 5 (0 : Int32)) 10 6 (0 : Int32)) 10 7 (0 : Int32)) 10 8 (1 : Int32)) := f8.i rfl
    have w10 : WT (uI (uI (uI (uI (uI (uI m 10 4 (0 : Int32)) 10 5 (0 : Int32)) 10 6 (0 : Int32)) 10 7 (0 : Int32)) 10 8 (1 : Int32)) (10 + 4) ((0 : Int32).toNatClampNeg) (vp_nar .boolean (0 : Int32))) := w9.n rfl
    have f10 : Fx (RS [1]) m (uI (uI (uI (uI (uI (uI m 10 4 (0 : Int32)) 10 5 (0 : Int32)) 10 6 (0 : Int32)) 10 7 (0 : Int32)) 10 8 (1 : Int32)) (10 + 4) ((0 : Int32).toNatClampNeg) (vp_nar .boolean (0 : Int32))) := f9.i rfl
    have t11 := ti_lt (40 : Int32) (m.1 1 1) (40 : Int32) (m.1 1 1)
    exact (l_X5_compile_10 (m0 := m) 1000000) _ _ _ w10 f10 (by show (0 : Int) ≤ ((if (40 : Int32) < (m.1 1 1) then (40 : Int32) else (m.1 1 1))).toInt; omega) (by show ((if (40 : Int32) < (m.1 1 1) then (40 : Int32) else (m.1 1 1))).toInt ≤ (40 : Int); omega) (by show (0 : Int) ≤ ((0 : Int32)).toInt; omega) (by show ((0 : Int32)).toInt ≤ (40 : Int); omega) (by show 40 - ((0 : Int32)).toInt < _; omega)
  · intro c12
    have r13 := w.at (a := 1) (k := 1) rfl
    have c14 : (m.1 1 1) = (0 : Int32) := c12
    have k15 := z_eq c14
    have w16 : WT (uI m 10 4 (0 : Int32)) := w.t rfl (by show (0 : Int) ≤ ((0 : Int32)).toInt; first | omega | decide) (by show ((0 : Int32)).toInt ≤ 40; first | omega | decide)
    have f16 : Fx (RS [1]) m (uI m 10 4 (0 : Int32)) := f.i rfl
    have w17 : WT (uI (uI m 10 4 (0 : Int32)) 10 5 (0 : Int32)) := w16.t rfl (by show (0 : Int) ≤ ((0 : Int32)).toInt; first | omega | decide) (by show ((0 : Int32)).toInt ≤ 40; first | omega | decide)
    have f17 : Fx (RS [1]) m (uI (uI m 10 4 (0 : Int32)) 10 5 (0 : Int32)) := f16.i rfl
    have w18 : WT (uI (uI (uI m 10 4 (0 : Int32)) 10 5 (0 : Int32)) 10 6 (0 : Int32)) := w17.t rfl (by show (0 : Int) ≤ ((0 : Int32)).toInt; first | omega | decide) (by show ((0 : Int32)).toInt ≤ 4; first | omega | decide)
    have f18 : Fx (RS [1]) m (uI (uI (uI m 10 4 (0 : Int32)) 10 5 (0 : Int32)) 10 6 (0 : Int32)) := f17.i rfl
    have w19 : WT (uI (uI (uI (uI m 10 4 (0 : Int32)) 10 5 (0 : Int32)) 10 6 (0 : Int32)) 10 7 (0 : Int32)) := w18.n rfl
    have f19 : Fx (RS [1]) m (uI (uI (uI (uI m 10 4 (0 : Int32)) 10 5 (0 : Int32)) 10 6 (0 : Int32)) 10 7 (0 : Int32)) := f18.i rfl
    have w20 : WT (uI (uI (uI (uI (uI m 10 4 (0 : Int32)) 10 5 (0 : Int32)) 10 6 (0 : Int32)) 10 7 (0 : Int32)) 10 8 (1 : Int32)) := w19.n rfl
    have f20 : Fx (RS [1]) m (uI (uI (uI (uI (uI m 10 4 (0 : Int32)) 10 5 (0 : Int32)) 10 6 (0 : Int32)) 10 7 (0 : Int32)) 10 8 (1 : Int32)) := f19.i rfl
    have w21 : WT (uI (uI (uI (uI (uI (uI m 10 4 (0 : Int32)) 10 5 (0 : Int32)) 10 6 (0 : Int32)) 10 7 (0 : Int32)) 10 8 (1 : Int32)) (10 + 4) ((0 : Int32).toNatClampNeg) (vp_nar .boolean (0 : Int32))) := w20.n rfl
    have f21 : Fx (RS [1]) m (uI (uI (uI (uI (uI (uI m 10 4 (0 : Int32)) 10 5 (0 : Int32)) 10 6 (0 : Int32)) 10 7 (0 : Int32)) 10 8 (1 : Int32)) (10 + 4) ((0 : Int32).toNatClampNeg) (vp_nar .boolean (0 : Int32))) := f20.i rfl
    exact ⟨w21, f21, _, rfl⟩
theorem s_X5_compile {ad : Nat → Nat} {d : Nat} {m : Wm} {b0 : Nat} (w : WT m) (hb0 : b0 = 5 ∨ b0 = 10) : Ct ad μX5_compile (d + 4) [.ref (ad b0), .ref (ad 1)] m (fun r m' => WT m' ∧ Fx (RS [1]) m m' ∧ ∃ v : Int32, r = some (.int v)) := by
  rcases hb0 with rfl | rfl
  · exact s_X5_compile_5 w
  · exact s_X5_compile_10 w
