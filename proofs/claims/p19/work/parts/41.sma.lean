/-! SAFETY OF THE MODEL, BY PROGRAM (has .. ill) -/
set_option maxHeartbeats 4000000 in
theorem s_X12_has {ad : Nat → Nat} {d : Nat} {m : Wm} {x0 x1 : Int32} (w : WT m) : Ct ad μX12_has d [.int x0, .int x1] m (fun r m' => WT m' ∧ Fx (RS []) m m' ∧ ∃ v : Int32, r = some (.int v) ∧ (0 : Int) ≤ v.toInt ∧ v.toInt ≤ 1) := by
  have f : Fx (RS []) m m := Fx.rf
  refine v_X12_has  ?_
  refine ⟨?_, ?_⟩
  · intro c1
    have t2 := t_and1 (x0 >>> (x1 &&& 31))
    have k3 := y_ner (n := 1) rfl c1
    exact ⟨w, f, _, rfl, (by show (0 : Int) ≤ (0 : Int); omega), (by show (0 : Int) ≤ (1 : Int); omega)⟩
  · intro c4
    have t5 := t_and1 (x0 >>> (x1 &&& 31))
    have k6 := y_eqr (n := 1) rfl c4
    exact ⟨w, f, _, rfl, (by show (0 : Int) ≤ (1 : Int); omega), (by show (1 : Int) ≤ (1 : Int); omega)⟩
set_option maxHeartbeats 4000000 in
theorem s_X12_lost {ad : Nat → Nat} {d : Nat} {m : Wm} (w : WT m) : Ct ad μX12_lost d [.ref (ad 187)] m (fun r m' => WT m' ∧ Fx (RS [20]) m m' ∧ ∃ v : Int32, r = some (.int v)) := by
  have f : Fx (RS [20]) m m := Fx.rf
  refine v_X12_lost  ?_
  have w1 : WT (uI m 187 17 (1 : Int32)) := w.n rfl
  have f1 : Fx (RS [20]) m (uI m 187 17 (1 : Int32)) := f.i rfl
  exact ⟨w1, f1, _, rfl⟩
set_option maxHeartbeats 4000000 in
theorem s_X12_tell {ad : Nat → Nat} {d : Nat} {m : Wm} {y1 : Int64} (w : WT m) (i1 : (m.1 187 16).toInt ≤ 15) : Ct ad μX12_tell d [.ref (ad 187), .long y1] m (fun r m' => WT m' ∧ Fx (RS [26]) m m' ∧ r = none ∧ ((m'.1 187 16).toInt = (m.1 187 16).toInt + 1)) := by
  have f : Fx (RS [26]) m m := Fx.rf
  refine v_X12_tell  ?_
  refine ⟨?_, ?_⟩
  · have r1 := w.at (a := 187) (k := 16) rfl
    exact vpi (by omega) (by omega)
  · have w2 : WT (uL m 196 ((m.1 187 16).toNatClampNeg) y1) := w.l
    have f2 : Fx (RS [26]) m (uL m 196 ((m.1 187 16).toNatClampNeg) y1) := f.l rfl
    have r4 := w.at (a := 187) (k := 16) rfl
    have t5 := ti_addc (x := (m.1 187 16)) (y := (1 : Int32)) (c := 1) rfl (by omega)
    have w3 : WT (uI (uL m 196 ((m.1 187 16).toNatClampNeg) y1) 187 16 (((uL m 196 ((m.1 187 16).toNatClampNeg) y1).1 187 16) + (1 : Int32))) := w2.t rfl (by show (0 : Int) ≤ (((m.1 187 16) + (1 : Int32))).toInt; omega) (by show (((m.1 187 16) + (1 : Int32))).toInt ≤ 16; omega)
    have f3 : Fx (RS [26]) m (uI (uL m 196 ((m.1 187 16).toNatClampNeg) y1) 187 16 (((uL m 196 ((m.1 187 16).toNatClampNeg) y1).1 187 16) + (1 : Int32))) := f2.i rfl
    exact ⟨w3, f3, rfl, (by show (((m.1 187 16) + (1 : Int32))).toInt = (m.1 187 16).toInt + 1; omega)⟩
set_option maxHeartbeats 4000000 in
theorem s_X12_isSide {ad : Nat → Nat} {d : Nat} {m : Wm} {x1 : Int32} (w : WT m) : Ct ad μX12_isSide (d + 1) [.ref (ad 187), .int x1] m (fun r m' => WT m' ∧ Fx (RS []) m m' ∧ ∃ v : Int32, r = some (.int v) ∧ (0 : Int) ≤ v.toInt ∧ v.toInt ≤ 1 ∧ ((v.toInt = 0 ∧ (x1.toInt < 0 ∨ (m.1 187 1).toInt ≤ x1.toInt)) ∨ (v.toInt = 1 ∧ 0 ≤ x1.toInt ∧ x1.toInt < (m.1 187 1).toInt))) := by
  have f : Fx (RS []) m m := Fx.rf
  refine v_X12_isSide  ?_
  have r1 := w.at (a := 187) (k := 1) rfl
  have t2 := ti_subc (x := (m.1 187 1)) (y := (1 : Int32)) (c := 1) rfl (by omega)
  refine (s_X12_in (x := x1) (lo := (0 : Int32)) (hi := ((m.1 187 1) - (1 : Int32))) w rfl rfl).to ?_
  rintro _ m1 ⟨w_m1, g3, v2, rfl, p5, p6, p4⟩
  have f_m1 : Fx (RS []) m m1 := f.tr g3 (RS_sub rfl)
  have p7 : (v2.toInt = 0 ∧ ((x1).toInt < (0 : Int) ∨ (((m.1 187 1) - (1 : Int32))).toInt < (x1).toInt)) ∨ (v2.toInt = 1 ∧ (0 : Int) ≤ (x1).toInt ∧ (x1).toInt ≤ (((m.1 187 1) - (1 : Int32))).toInt) := p4
  clear p4
  have e8 : (m1.1 187 1).toInt = ((m.1 187 1)).toInt := congrArg _ (g3.at (a := 187) (k := 1) (by decide))
  have e9 : (m1.1 187 0).toInt = ((m.1 187 0)).toInt := congrArg _ (g3.at (a := 187) (k := 0) (by decide))
  refine ⟨v2, rfl, ?_⟩
  refine ⟨?_, ?_⟩
  · exact bz_of (by omega) (by omega)
  · exact ⟨w_m1, f_m1, _, rfl, (by show (0 : Int) ≤ (v2).toInt; omega), (by show (v2).toInt ≤ (1 : Int); omega), (by show ((v2).toInt = 0 ∧ (x1.toInt < 0 ∨ (m.1 187 1).toInt ≤ x1.toInt)) ∨ ((v2).toInt = 1 ∧ 0 ≤ x1.toInt ∧ x1.toInt < (m.1 187 1).toInt); omega)⟩
set_option maxHeartbeats 4000000 in
theorem s_X12_isArt {ad : Nat → Nat} {d : Nat} {m : Wm} {x1 : Int32} (w : WT m) : Ct ad μX12_isArt (d + 1) [.ref (ad 187), .int x1] m (fun r m' => WT m' ∧ Fx (RS []) m m' ∧ ∃ v : Int32, r = some (.int v) ∧ (0 : Int) ≤ v.toInt ∧ v.toInt ≤ 1 ∧ ((v.toInt = 0 ∧ (x1.toInt < 0 ∨ (m.1 187 0).toInt ≤ x1.toInt)) ∨ (v.toInt = 1 ∧ 0 ≤ x1.toInt ∧ x1.toInt < (m.1 187 0).toInt))) := by
  have f : Fx (RS []) m m := Fx.rf
  refine v_X12_isArt  ?_
  have r1 := w.at (a := 187) (k := 0) rfl
  have t2 := ti_subc (x := (m.1 187 0)) (y := (1 : Int32)) (c := 1) rfl (by omega)
  refine (s_X12_in (x := x1) (lo := (0 : Int32)) (hi := ((m.1 187 0) - (1 : Int32))) w rfl rfl).to ?_
  rintro _ m1 ⟨w_m1, g3, v2, rfl, p5, p6, p4⟩
  have f_m1 : Fx (RS []) m m1 := f.tr g3 (RS_sub rfl)
  have p7 : (v2.toInt = 0 ∧ ((x1).toInt < (0 : Int) ∨ (((m.1 187 0) - (1 : Int32))).toInt < (x1).toInt)) ∨ (v2.toInt = 1 ∧ (0 : Int) ≤ (x1).toInt ∧ (x1).toInt ≤ (((m.1 187 0) - (1 : Int32))).toInt) := p4
  clear p4
  have e8 : (m1.1 187 1).toInt = ((m.1 187 1)).toInt := congrArg _ (g3.at (a := 187) (k := 1) (by decide))
  have e9 : (m1.1 187 0).toInt = ((m.1 187 0)).toInt := congrArg _ (g3.at (a := 187) (k := 0) (by decide))
  refine ⟨v2, rfl, ?_⟩
  refine ⟨?_, ?_⟩
  · exact bz_of (by omega) (by omega)
  · exact ⟨w_m1, f_m1, _, rfl, (by show (0 : Int) ≤ (v2).toInt; omega), (by show (v2).toInt ≤ (1 : Int); omega), (by show ((v2).toInt = 0 ∧ (x1.toInt < 0 ∨ (m.1 187 0).toInt ≤ x1.toInt)) ∨ ((v2).toInt = 1 ∧ 0 ≤ x1.toInt ∧ x1.toInt < (m.1 187 0).toInt); omega)⟩
set_option maxHeartbeats 4000000 in
theorem s_X12_areTwo {ad : Nat → Nat} {d : Nat} {m : Wm} {x1 x2 : Int32} (w : WT m) : Ct ad μX12_areTwo (d + 2) [.ref (ad 187), .int x1, .int x2] m (fun r m' => WT m' ∧ Fx (RS []) m m' ∧ ∃ v : Int32, r = some (.int v) ∧ (0 : Int) ≤ v.toInt ∧ v.toInt ≤ 1 ∧ ((v.toInt = 0 ∧ (x1.toInt < 0 ∨ (m.1 187 1).toInt ≤ x1.toInt ∨ x2.toInt < 0 ∨ (m.1 187 1).toInt ≤ x2.toInt ∨ x1.toInt = x2.toInt)) ∨ (v.toInt = 1 ∧ 0 ≤ x1.toInt ∧ x1.toInt < (m.1 187 1).toInt ∧ 0 ≤ x2.toInt ∧ x2.toInt < (m.1 187 1).toInt ∧ x1.toInt ≠ x2.toInt))) := by
  have f : Fx (RS []) m m := Fx.rf
  refine v_X12_areTwo  ?_
  refine (s_X12_isSide w).to ?_
  rintro _ m1 ⟨w_m1, g1, v2, rfl, p3, p4, p2⟩
  have f_m1 : Fx (RS []) m m1 := f.tr g1 (RS_sub rfl)
  have p5 : (v2.toInt = 0 ∧ ((x1).toInt < 0 ∨ ((m.1 187 1)).toInt ≤ (x1).toInt)) ∨ (v2.toInt = 1 ∧ 0 ≤ (x1).toInt ∧ (x1).toInt < ((m.1 187 1)).toInt) := p2
  clear p2
  have e6 : (m1.1 187 1).toInt = ((m.1 187 1)).toInt := congrArg _ (g1.at (a := 187) (k := 1) (by decide))
  have e7 : (m1.1 187 0).toInt = ((m.1 187 0)).toInt := congrArg _ (g1.at (a := 187) (k := 0) (by decide))
  refine ⟨v2, rfl, ?_⟩
  refine ⟨?_, ?_⟩
  · intro c8
    have k9 := y_eqr (n := 0) rfl c8
    exact ⟨w_m1, f_m1, _, rfl, (by show (0 : Int) ≤ (0 : Int); omega), (by show (0 : Int) ≤ (1 : Int); omega), (by show ((0 : Int) = 0 ∧ (x1.toInt < 0 ∨ (m.1 187 1).toInt ≤ x1.toInt ∨ x2.toInt < 0 ∨ (m.1 187 1).toInt ≤ x2.toInt ∨ x1.toInt = x2.toInt)) ∨ ((0 : Int) = 1 ∧ 0 ≤ x1.toInt ∧ x1.toInt < (m.1 187 1).toInt ∧ 0 ≤ x2.toInt ∧ x2.toInt < (m.1 187 1).toInt ∧ x1.toInt ≠ x2.toInt); omega)⟩
  · intro c10
    have k11 := y_ner (n := 0) rfl c10
    have r12 := w.at (a := 187) (k := 1) rfl
    refine (s_X12_isSide w_m1).to ?_
    rintro _ m3 ⟨w_m3, g13, v4, rfl, p15, p16, p14⟩
    have f_m3 : Fx (RS []) m m3 := f_m1.tr g13 (RS_sub rfl)
    have p17 : (v4.toInt = 0 ∧ ((x2).toInt < 0 ∨ ((m1.1 187 1)).toInt ≤ (x2).toInt)) ∨ (v4.toInt = 1 ∧ 0 ≤ (x2).toInt ∧ (x2).toInt < ((m1.1 187 1)).toInt) := p14
    clear p14
    have e18 : (m3.1 187 1).toInt = ((m1.1 187 1)).toInt := congrArg _ (g13.at (a := 187) (k := 1) (by decide))
    have e19 : (m3.1 187 0).toInt = ((m1.1 187 0)).toInt := congrArg _ (g13.at (a := 187) (k := 0) (by decide))
    refine ⟨v4, rfl, ?_⟩
    refine ⟨?_, ?_⟩
    · intro c20
      have k21 := y_eqr (n := 0) rfl c20
      exact ⟨w_m3, f_m3, _, rfl, (by show (0 : Int) ≤ (0 : Int); omega), (by show (0 : Int) ≤ (1 : Int); omega), (by show ((0 : Int) = 0 ∧ (x1.toInt < 0 ∨ (m.1 187 1).toInt ≤ x1.toInt ∨ x2.toInt < 0 ∨ (m.1 187 1).toInt ≤ x2.toInt ∨ x1.toInt = x2.toInt)) ∨ ((0 : Int) = 1 ∧ 0 ≤ x1.toInt ∧ x1.toInt < (m.1 187 1).toInt ∧ 0 ≤ x2.toInt ∧ x2.toInt < (m.1 187 1).toInt ∧ x1.toInt ≠ x2.toInt); omega)⟩
    · intro c22
      have k23 := y_ner (n := 0) rfl c22
      have r24 := w_m1.at (a := 187) (k := 1) rfl
      refine ⟨?_, ?_⟩
      · intro c25
        have k26 := z_eq c25
        exact ⟨w_m3, f_m3, _, rfl, (by show (0 : Int) ≤ (0 : Int); omega), (by show (0 : Int) ≤ (1 : Int); omega), (by show ((0 : Int) = 0 ∧ (x1.toInt < 0 ∨ (m.1 187 1).toInt ≤ x1.toInt ∨ x2.toInt < 0 ∨ (m.1 187 1).toInt ≤ x2.toInt ∨ x1.toInt = x2.toInt)) ∨ ((0 : Int) = 1 ∧ 0 ≤ x1.toInt ∧ x1.toInt < (m.1 187 1).toInt ∧ 0 ≤ x2.toInt ∧ x2.toInt < (m.1 187 1).toInt ∧ x1.toInt ≠ x2.toInt); omega)⟩
      · intro c27
        have k28 := z_ne c27
        exact ⟨w_m3, f_m3, _, rfl, (by show (0 : Int) ≤ (1 : Int); omega), (by show (1 : Int) ≤ (1 : Int); omega), (by show ((1 : Int) = 0 ∧ (x1.toInt < 0 ∨ (m.1 187 1).toInt ≤ x1.toInt ∨ x2.toInt < 0 ∨ (m.1 187 1).toInt ≤ x2.toInt ∨ x1.toInt = x2.toInt)) ∨ ((1 : Int) = 1 ∧ 0 ≤ x1.toInt ∧ x1.toInt < (m.1 187 1).toInt ∧ 0 ≤ x2.toInt ∧ x2.toInt < (m.1 187 1).toInt ∧ x1.toInt ≠ x2.toInt); omega)⟩
set_option maxHeartbeats 4000000 in
theorem l_X12_sign {ad : Nat → Nat} {d : Nat} {m0 : Wm}  : ∀ n : Nat, (∀ (m : Wm) (x1 x2 : Int32), WT m → Fx (RS [20, 21]) m0 m → (-1 : Int) ≤ x2.toInt → x2.toInt ≤ (3 : Int) → ((m.1 187 14).toInt = (m0.1 187 14).toInt + 3 - x2.toInt) → ((m0.1 187 14).toInt ≤ 76) → x2.toInt + 1 < (n : Int) → AW ad E0 μX12_sign d (fun r m' => WT m' ∧ Fx (RS [20, 21]) m0 m' ∧ ∃ v : Int32, r = some (.int v) ∧ ((v.toInt = -1 ∧ (m'.1 187 14).toInt = (m0.1 187 14).toInt ∧ 76 < (m0.1 187 14).toInt) ∨ (v.toInt = (m0.1 187 14).toInt + 4 ∧ (m'.1 187 14).toInt = (m0.1 187 14).toInt + 4 ∧ (m0.1 187 14).toInt ≤ 76))) 20 [(0, .ref (ad 187)), (1, .int x1), (2, .int x2)] [] m) := by
  intro n
  induction n with
  | zero =>
    intros
    exfalso
    omega
  | succ n ih =>
    intro m x1 x2 w f j1 j2 j3 j4 hn
    refine g_X12_sign_20  ?_
    refine ⟨?_, ?_⟩
    · intro c1
      have k2 := y_ltr (n := 0) rfl c1
      have r3 := w.at (a := 187) (k := 14) rfl
      exact ⟨w, f, _, rfl, (by show (((m.1 187 14)).toInt = -1 ∧ ((m.1 187 14)).toInt = (m0.1 187 14).toInt ∧ 76 < (m0.1 187 14).toInt) ∨ (((m.1 187 14)).toInt = (m0.1 187 14).toInt + 4 ∧ ((m.1 187 14)).toInt = (m0.1 187 14).toInt + 4 ∧ (m0.1 187 14).toInt ≤ 76); omega)⟩
    · intro c4
      have k5 := y_nltr (n := 0) rfl c4
      refine ⟨?_, ?_⟩
      · have r6 := w.at (a := 187) (k := 14) rfl
        exact vpi (by omega) (by omega)
      · have r8 := w.at (a := 187) (k := 14) rfl
        have t9 := ti_addc (x := (m.1 187 14)) (y := (1 : Int32)) (c := 1) rfl (by omega)
        have w7 : WT (uI m 187 14 ((m.1 187 14) + (1 : Int32))) := w.t rfl (by show (0 : Int) ≤ (((m.1 187 14) + (1 : Int32))).toInt; omega) (by show (((m.1 187 14) + (1 : Int32))).toInt ≤ 80; omega)
        have f7 : Fx (RS [20, 21]) m0 (uI m 187 14 ((m.1 187 14) + (1 : Int32))) := f.i rfl
        have w10 : WT (uI (uI m 187 14 ((m.1 187 14) + (1 : Int32))) 195 ((m.1 187 14).toNatClampNeg) (vp_nar .byte ((x1 >>> (((8 : Int32) * x2) &&& 31)).toInt8.toInt32))) := w7.n rfl
        have f10 : Fx (RS [20, 21]) m0 (uI (uI m 187 14 ((m.1 187 14) + (1 : Int32))) 195 ((m.1 187 14).toNatClampNeg) (vp_nar .byte ((x1 >>> (((8 : Int32) * x2) &&& 31)).toInt8.toInt32))) := f7.i rfl
        have t11 := ti_addc (x := x2) (y := (-1 : Int32)) (c := -1) rfl (by omega)
        exact ih _ _ _ w10 f10 (by show (-1 : Int) ≤ ((x2 + (-1 : Int32))).toInt; omega) (by show ((x2 + (-1 : Int32))).toInt ≤ (3 : Int); omega) (by show (((m.1 187 14) + (1 : Int32))).toInt = (m0.1 187 14).toInt + 3 - ((x2 + (-1 : Int32))).toInt; omega) (by show (m0.1 187 14).toInt ≤ 76; omega) (by show ((x2 + (-1 : Int32))).toInt + 1 < _; omega)
set_option maxHeartbeats 4000000 in
theorem s_X12_sign {ad : Nat → Nat} {d : Nat} {m : Wm} {x1 : Int32} (w : WT m) : Ct ad μX12_sign d [.ref (ad 187), .int x1] m (fun r m' => WT m' ∧ Fx (RS [20, 21]) m m' ∧ ∃ v : Int32, r = some (.int v) ∧ ((v.toInt = -1 ∧ (m'.1 187 14).toInt = (m.1 187 14).toInt ∧ 76 < (m.1 187 14).toInt) ∨ (v.toInt = (m.1 187 14).toInt + 4 ∧ (m'.1 187 14).toInt = (m.1 187 14).toInt + 4 ∧ (m.1 187 14).toInt ≤ 76))) := by
  have f : Fx (RS [20, 21]) m m := Fx.rf
  refine v_X12_sign  ?_
  refine ⟨?_, ?_⟩
  · intro c1
    have r2 := w.at (a := 187) (k := 14) rfl
    have t3 := ti_addc (x := (m.1 187 14)) (y := (4 : Int32)) (c := 4) rfl (by omega)
    have c4 : ((m.1 187 14) + (4 : Int32)) ≤ (80 : Int32) := c1
    have k5 := y_ler (n := 80) rfl c4
    have w6 : WT (uI m 187 17 (0 : Int32)) := w.n rfl
    have f6 : Fx (RS [20, 21]) m (uI m 187 17 (0 : Int32)) := f.i rfl
    exact (l_X12_sign (m0 := m) 1000000) _ _ _ w6 f6 (by show (-1 : Int) ≤ (3 : Int); omega) (by show (3 : Int) ≤ (3 : Int); omega) (by show ((m.1 187 14)).toInt = (m.1 187 14).toInt + 3 - (3 : Int); omega) (by show (m.1 187 14).toInt ≤ 76; omega) (by show (3 : Int) + 1 < _; omega)
  · intro c7
    have r8 := w.at (a := 187) (k := 14) rfl
    have t9 := ti_addc (x := (m.1 187 14)) (y := (4 : Int32)) (c := 4) rfl (by omega)
    have c10 : ¬ ((m.1 187 14) + (4 : Int32)) ≤ (80 : Int32) := c7
    have k11 := y_nler (n := 80) rfl c10
    have w12 : WT (uI m 187 17 (0 : Int32)) := w.n rfl
    have f12 : Fx (RS [20, 21]) m (uI m 187 17 (0 : Int32)) := f.i rfl
    exact ⟨w12, f12, _, rfl, (by show ((-1 : Int) = -1 ∧ ((m.1 187 14)).toInt = (m.1 187 14).toInt ∧ 76 < (m.1 187 14).toInt) ∨ ((-1 : Int) = (m.1 187 14).toInt + 4 ∧ ((m.1 187 14)).toInt = (m.1 187 14).toInt + 4 ∧ (m.1 187 14).toInt ≤ 76); omega)⟩
set_option maxHeartbeats 4000000 in
theorem s_X12_end {ad : Nat → Nat} {d : Nat} {m : Wm} {x1 : Int32} (w : WT m) : Ct ad μX12_end (d + 1) [.ref (ad 187), .int x1] m (fun r m' => WT m' ∧ Fx (RS [20, 21]) m m' ∧ ∃ v : Int32, r = some (.int v) ∧ (0 : Int) ≤ v.toInt ∧ v.toInt ≤ 1 ∧ ((v.toInt = 0 ∧ (m'.1 187 14).toInt = (m.1 187 14).toInt ∧ (x1.toInt < 0 ∨ (m.1 187 14).toInt < x1.toInt)) ∨ (v.toInt = 1 ∧ (m'.1 187 14).toInt = x1.toInt ∧ 0 ≤ x1.toInt ∧ x1.toInt ≤ (m.1 187 14).toInt))) := by
  have f : Fx (RS [20, 21]) m m := Fx.rf
  refine v_X12_end  ?_
  have w1 : WT (uI m 187 17 (0 : Int32)) := w.n rfl
  have f1 : Fx (RS [20, 21]) m (uI m 187 17 (0 : Int32)) := f.i rfl
  have r2 := w.at (a := 187) (k := 14) rfl
  refine (s_X12_in (x := x1) (lo := (0 : Int32)) (hi := (m.1 187 14)) w1 rfl rfl).to ?_
  rintro _ m1 ⟨w_m1, g3, v2, rfl, p5, p6, p4⟩
  have f_m1 : Fx (RS [20, 21]) m m1 := f1.tr g3 (RS_sub rfl)
  have p7 : (v2.toInt = 0 ∧ ((x1).toInt < (0 : Int) ∨ ((m.1 187 14)).toInt < (x1).toInt)) ∨ (v2.toInt = 1 ∧ (0 : Int) ≤ (x1).toInt ∧ (x1).toInt ≤ ((m.1 187 14)).toInt) := p4
  clear p4
  have e8 : (m1.1 187 14).toInt = ((m.1 187 14)).toInt := congrArg _ (g3.at (a := 187) (k := 14) (by decide))
  have e9 : (m1.1 187 1).toInt = ((m.1 187 1)).toInt := congrArg _ (g3.at (a := 187) (k := 1) (by decide))
  have e10 : (m1.1 187 0).toInt = ((m.1 187 0)).toInt := congrArg _ (g3.at (a := 187) (k := 0) (by decide))
  refine ⟨v2, rfl, ?_⟩
  refine ⟨?_, ?_⟩
  · intro c11
    have k12 := y_ner (n := 0) rfl c11
    have w13 : WT (uI m1 187 14 x1) := w_m1.t rfl (by show (0 : Int) ≤ (x1).toInt; omega) (by show (x1).toInt ≤ 80; omega)
    have f13 : Fx (RS [20, 21]) m (uI m1 187 14 x1) := f_m1.i rfl
    exact ⟨w13, f13, _, rfl, (by show (0 : Int) ≤ (1 : Int); omega), (by show (1 : Int) ≤ (1 : Int); omega), (by show ((1 : Int) = 0 ∧ (x1).toInt = (m.1 187 14).toInt ∧ (x1.toInt < 0 ∨ (m.1 187 14).toInt < x1.toInt)) ∨ ((1 : Int) = 1 ∧ (x1).toInt = x1.toInt ∧ 0 ≤ x1.toInt ∧ x1.toInt ≤ (m.1 187 14).toInt); omega)⟩
  · intro c14
    have k15 := y_eqr (n := 0) rfl c14
    have r16 := w_m1.at (a := 187) (k := 14) rfl
    exact ⟨w_m1, f_m1, _, rfl, (by show (0 : Int) ≤ (0 : Int); omega), (by show (0 : Int) ≤ (1 : Int); omega), (by show ((0 : Int) = 0 ∧ ((m1.1 187 14)).toInt = (m.1 187 14).toInt ∧ (x1.toInt < 0 ∨ (m.1 187 14).toInt < x1.toInt)) ∨ ((0 : Int) = 1 ∧ ((m1.1 187 14)).toInt = x1.toInt ∧ 0 ≤ x1.toInt ∧ x1.toInt ≤ (m.1 187 14).toInt); omega)⟩
set_option maxHeartbeats 4000000 in
theorem s_X12_skill {ad : Nat → Nat} {d : Nat} {m : Wm} {x1 x2 : Int32} (w : WT m) : Ct ad μX12_skill (d + 2) [.ref (ad 187), .int x1, .int x2] m (fun r m' => WT m' ∧ Fx (RS [20]) m m' ∧ ∃ v : Int32, r = some (.int v)) := by
  have f : Fx (RS [20]) m m := Fx.rf
  refine v_X12_skill  ?_
  have w1 : WT (uI m 187 17 (0 : Int32)) := w.n rfl
  have f1 : Fx (RS [20]) m (uI m 187 17 (0 : Int32)) := f.i rfl
  refine (s_X12_isSide w1).to ?_
  rintro _ m1 ⟨w_m1, g2, v2, rfl, p4, p5, p3⟩
  have f_m1 : Fx (RS [20]) m m1 := f1.tr g2 (RS_sub rfl)
  have p6 : (v2.toInt = 0 ∧ ((x1).toInt < 0 ∨ ((m.1 187 1)).toInt ≤ (x1).toInt)) ∨ (v2.toInt = 1 ∧ 0 ≤ (x1).toInt ∧ (x1).toInt < ((m.1 187 1)).toInt) := p3
  clear p3
  have e7 : (m1.1 187 1).toInt = ((m.1 187 1)).toInt := congrArg _ (g2.at (a := 187) (k := 1) (by decide))
  have e8 : (m1.1 187 0).toInt = ((m.1 187 0)).toInt := congrArg _ (g2.at (a := 187) (k := 0) (by decide))
  refine ⟨v2, rfl, ?_⟩
  refine ⟨?_, ?_⟩
  · intro c9
    have k10 := y_eqr (n := 0) rfl c9
    exact ⟨w_m1, f_m1, _, rfl⟩
  · intro c11
    have k12 := y_ner (n := 0) rfl c11
    have r13 := w.at (a := 187) (k := 1) rfl
    refine (s_X12_isArt w_m1).to ?_
    rintro _ m3 ⟨w_m3, g14, v4, rfl, p16, p17, p15⟩
    have f_m3 : Fx (RS [20]) m m3 := f_m1.tr g14 (RS_sub rfl)
    have p18 : (v4.toInt = 0 ∧ ((x2).toInt < 0 ∨ ((m1.1 187 0)).toInt ≤ (x2).toInt)) ∨ (v4.toInt = 1 ∧ 0 ≤ (x2).toInt ∧ (x2).toInt < ((m1.1 187 0)).toInt) := p15
    clear p15
    have e19 : (m3.1 187 1).toInt = ((m1.1 187 1)).toInt := congrArg _ (g14.at (a := 187) (k := 1) (by decide))
    have e20 : (m3.1 187 0).toInt = ((m1.1 187 0)).toInt := congrArg _ (g14.at (a := 187) (k := 0) (by decide))
    refine ⟨v4, rfl, ?_⟩
    refine ⟨?_, ?_⟩
    · intro c21
      have k22 := y_eqr (n := 0) rfl c21
      exact ⟨w_m3, f_m3, _, rfl⟩
    · intro c23
      have k24 := y_ner (n := 0) rfl c23
      have r25 := w_m1.at (a := 187) (k := 0) rfl
      refine ⟨?_, ?_⟩
      · have t26 := ti_mulc (c := 4) (y := (4 : Int32)) (x := x1) rfl (by omega)
        have t27 := ti_add (x := ((4 : Int32) * x1)) (y := x2) (by omega)
        exact vpi (by omega) (by omega)
      · exact ⟨w_m3, f_m3, _, rfl⟩
set_option maxHeartbeats 4000000 in
theorem l_X12_sumOf {ad : Nat → Nat} {d : Nat} {m0 : Wm}  : ∀ n : Nat, (∀ (m : Wm) (x1 x2 x3 : Int32), WT m → Fx (RS []) m0 m → (0 : Int) ≤ x1.toInt → x1.toInt ≤ (7 : Int) → (0 : Int) ≤ x3.toInt → x3.toInt ≤ (4 : Int) → 4 - x3.toInt < (n : Int) → AW ad E0 μX12_sumOf d (fun r m' => WT m' ∧ Fx (RS []) m0 m' ∧ ∃ v : Int32, r = some (.int v)) 4 [(0, .ref (ad 187)), (1, .int x1), (2, .int x2), (3, .int x3)] [] m) := by
  intro n
  induction n with
  | zero =>
    intros
    exfalso
    omega
  | succ n ih =>
    intro m x1 x2 x3 w f j1 j2 j3 j4 hn
    refine g_X12_sumOf_4  ?_
    refine ⟨?_, ?_⟩
    · intro c1
      have r2 := w.at (a := 187) (k := 0) rfl
      have k3 := z_le c1
      exact ⟨w, f, _, rfl⟩
    · intro c4
      have r5 := w.at (a := 187) (k := 0) rfl
      have k6 := z_nle c4
      refine ⟨?_, ?_⟩
      · have t7 := ti_mulc (c := 4) (y := (4 : Int32)) (x := x1) rfl (by omega)
        have t8 := ti_add (x := ((4 : Int32) * x1)) (y := x3) (by omega)
        exact vpi (by omega) (by omega)
      · have t9 := ti_addc (x := x3) (y := (1 : Int32)) (c := 1) rfl (by omega)
        exact ih _ _ _ _ w f (by show (0 : Int) ≤ (x1).toInt; omega) (by show (x1).toInt ≤ (7 : Int); omega) (by show (0 : Int) ≤ ((x3 + (1 : Int32))).toInt; omega) (by show ((x3 + (1 : Int32))).toInt ≤ (4 : Int); omega) (by show 4 - ((x3 + (1 : Int32))).toInt < _; omega)
set_option maxHeartbeats 4000000 in
theorem s_X12_sumOf {ad : Nat → Nat} {d : Nat} {m : Wm} {x1 : Int32} (w : WT m) (i1 : (0 : Int) ≤ x1.toInt) (i2 : x1.toInt ≤ (7 : Int)) : Ct ad μX12_sumOf d [.ref (ad 187), .int x1] m (fun r m' => WT m' ∧ Fx (RS []) m m' ∧ ∃ v : Int32, r = some (.int v)) := by
  have f : Fx (RS []) m m := Fx.rf
  refine v_X12_sumOf  ?_
  exact (l_X12_sumOf (m0 := m) 1000000) _ _ _ _ w f (by show (0 : Int) ≤ (x1).toInt; omega) (by show (x1).toInt ≤ (7 : Int); omega) (by show (0 : Int) ≤ (0 : Int); omega) (by show (0 : Int) ≤ (4 : Int); omega) (by show 4 - (0 : Int) < _; omega)
set_option maxHeartbeats 4000000 in
theorem l_X12_sumOfAll {ad : Nat → Nat} {d : Nat} {m0 : Wm}  : ∀ n : Nat, (∀ (m : Wm) (x1 x2 : Int32), WT m → Fx (RS []) m0 m → (0 : Int) ≤ x2.toInt → x2.toInt ≤ (8 : Int) → 8 - x2.toInt < (n : Int) → AW ad E0 μX12_sumOfAll (d + 1) (fun r m' => WT m' ∧ Fx (RS []) m0 m' ∧ ∃ v : Int32, r = some (.int v)) 4 [(0, .ref (ad 187)), (1, .int x1), (2, .int x2)] [] m) := by
  intro n
  induction n with
  | zero =>
    intros
    exfalso
    omega
  | succ n ih =>
    intro m x1 x2 w f j1 j2 hn
    refine g_X12_sumOfAll_4  ?_
    refine ⟨?_, ?_⟩
    · intro c1
      have r2 := w.at (a := 187) (k := 1) rfl
      have k3 := z_le c1
      exact ⟨w, f, _, rfl⟩
    · intro c4
      have r5 := w.at (a := 187) (k := 1) rfl
      have k6 := z_nle c4
      refine (s_X12_sumOf w (by show (0 : Int) ≤ (x2).toInt; omega) (by show (x2).toInt ≤ (7 : Int); omega)).to ?_
      rintro _ m1 ⟨w_m1, g7, v2, rfl⟩
      have f_m1 : Fx (RS []) m0 m1 := f.tr g7 (RS_sub rfl)
      have e8 : (m1.1 187 1).toInt = ((m.1 187 1)).toInt := congrArg _ (g7.at (a := 187) (k := 1) (by decide))
      have e9 : (m1.1 187 0).toInt = ((m.1 187 0)).toInt := congrArg _ (g7.at (a := 187) (k := 0) (by decide))
      refine ⟨v2, rfl, ?_⟩
      have t10 := ti_addc (x := x2) (y := (1 : Int32)) (c := 1) rfl (by omega)
      exact ih _ _ _ w_m1 f_m1 (by show (0 : Int) ≤ ((x2 + (1 : Int32))).toInt; omega) (by show ((x2 + (1 : Int32))).toInt ≤ (8 : Int); omega) (by show 8 - ((x2 + (1 : Int32))).toInt < _; omega)
set_option maxHeartbeats 4000000 in
theorem s_X12_sumOfAll {ad : Nat → Nat} {d : Nat} {m : Wm} (w : WT m) : Ct ad μX12_sumOfAll (d + 1) [.ref (ad 187)] m (fun r m' => WT m' ∧ Fx (RS []) m m' ∧ ∃ v : Int32, r = some (.int v)) := by
  have f : Fx (RS []) m m := Fx.rf
  refine v_X12_sumOfAll  ?_
  exact (l_X12_sumOfAll (m0 := m) 1000000) _ _ _ w f (by show (0 : Int) ≤ (0 : Int); omega) (by show (0 : Int) ≤ (8 : Int); omega) (by show 8 - (0 : Int) < _; omega)
set_option maxHeartbeats 4000000 in
theorem s_X12_of {ad : Nat → Nat} {d : Nat} {m : Wm} {x1 x2 : Int32} (w : WT m) : Ct ad μX12_of (d + 169) [.ref (ad 187), .int x1, .int x2] m (fun r m' => WT m' ∧ Fx (RS [20, 22, 28]) m m' ∧ ∃ v : Int32, r = some (.int v)) := by
  have f : Fx (RS [20, 22, 28]) m m := Fx.rf
  refine v_X12_of  ?_
  have w1 : WT (uI m 187 17 (0 : Int32)) := w.n rfl
  have f1 : Fx (RS [20, 22, 28]) m (uI m 187 17 (0 : Int32)) := f.i rfl
  refine (s_X12_isSide w1).to ?_
  rintro _ m1 ⟨w_m1, g2, v2, rfl, p4, p5, p3⟩
  have f_m1 : Fx (RS [20, 22, 28]) m m1 := f1.tr g2 (RS_sub rfl)
  have p6 : (v2.toInt = 0 ∧ ((x1).toInt < 0 ∨ ((m.1 187 1)).toInt ≤ (x1).toInt)) ∨ (v2.toInt = 1 ∧ 0 ≤ (x1).toInt ∧ (x1).toInt < ((m.1 187 1)).toInt) := p3
  clear p3
  have e7 : (m1.1 187 1).toInt = ((m.1 187 1)).toInt := congrArg _ (g2.at (a := 187) (k := 1) (by decide))
  have e8 : (m1.1 187 0).toInt = ((m.1 187 0)).toInt := congrArg _ (g2.at (a := 187) (k := 0) (by decide))
  refine ⟨v2, rfl, ?_⟩
  refine ⟨?_, ?_⟩
  · intro c9
    have k10 := y_eqr (n := 0) rfl c9
    refine (s_X12_lost w_m1).to ?_
    rintro _ m3 ⟨w_m3, g11, v4, rfl⟩
    have f_m3 : Fx (RS [20, 22, 28]) m m3 := f_m1.tr g11 (RS_sub rfl)
    have e12 : (m3.1 187 1).toInt = ((m1.1 187 1)).toInt := congrArg _ (g11.at (a := 187) (k := 1) (by decide))
    have e13 : (m3.1 187 0).toInt = ((m1.1 187 0)).toInt := congrArg _ (g11.at (a := 187) (k := 0) (by decide))
    refine ⟨v4, rfl, ?_⟩
    exact ⟨w_m3, f_m3, _, rfl⟩
  · intro c14
    have k15 := y_ner (n := 0) rfl c14
    have r16 := w.at (a := 187) (k := 1) rfl
    refine (s_X12_in (x := x2) (lo := (0 : Int32)) (hi := (4 : Int32)) w_m1 rfl rfl).to ?_
    rintro _ m5 ⟨w_m5, g17, v6, rfl, p19, p20, p18⟩
    have f_m5 : Fx (RS [20, 22, 28]) m m5 := f_m1.tr g17 (RS_sub rfl)
    have p21 : (v6.toInt = 0 ∧ ((x2).toInt < (0 : Int) ∨ (4 : Int) < (x2).toInt)) ∨ (v6.toInt = 1 ∧ (0 : Int) ≤ (x2).toInt ∧ (x2).toInt ≤ (4 : Int)) := p18
    clear p18
    have e22 : (m5.1 187 1).toInt = ((m1.1 187 1)).toInt := congrArg _ (g17.at (a := 187) (k := 1) (by decide))
    have e23 : (m5.1 187 0).toInt = ((m1.1 187 0)).toInt := congrArg _ (g17.at (a := 187) (k := 0) (by decide))
    refine ⟨v6, rfl, ?_⟩
    refine ⟨?_, ?_⟩
    · intro c24
      have k25 := y_ner (n := 0) rfl c24
      refine ⟨?_, ?_⟩
      · intro c26
        have k27 := y_ner (n := 0) rfl c26
        refine ⟨?_, ?_⟩
        · intro c28
          have k29 := y_ner (n := 1) rfl c28
          refine ⟨?_, ?_⟩
          · intro c30
            have k31 := y_ner (n := 2) rfl c30
            refine ⟨?_, ?_⟩
            · intro c32
              have k33 := y_ner (n := 3) rfl c32
              refine ⟨?_, ?_⟩
              · exact vpi (by omega) (by omega)
              · exact ⟨w_m5, f_m5, _, rfl⟩
            · intro c34
              have k35 := y_eqr (n := 3) rfl c34
              refine ⟨?_, ?_⟩
              · exact vpi (by omega) (by omega)
              · refine ⟨?_, ?_⟩
                · intro c36
                  have k37 := y_eqr (n := 0) rfl c36
                  exact ⟨w_m5, f_m5, _, rfl⟩
                · intro c38
                  have k39 := y_ner (n := 0) rfl c38
                  exact ⟨w_m5, f_m5, _, rfl⟩
          · intro c40
            have k41 := y_eqr (n := 2) rfl c40
            refine ⟨?_, ?_⟩
            · exact vpi (by omega) (by omega)
            · exact ⟨w_m5, f_m5, _, rfl⟩
        · intro c42
          have k43 := y_eqr (n := 1) rfl c42
          refine ⟨?_, ?_⟩
          · exact vpi (by omega) (by omega)
          · exact ⟨w_m5, f_m5, _, rfl⟩
      · intro c44
        have k45 := y_eqr (n := 0) rfl c44
        refine (s_X12_power w_m5 (by show (0 : Int) ≤ (x1).toInt; omega) (by show (x1).toInt ≤ (7 : Int); omega)).to ?_
        rintro _ m7 ⟨w_m7, g46, v8, rfl⟩
        have f_m7 : Fx (RS [20, 22, 28]) m m7 := f_m5.tr g46 (RS_sub rfl)
        have e47 : (m7.1 187 1).toInt = ((m5.1 187 1)).toInt := congrArg _ (g46.at (a := 187) (k := 1) (by decide))
        have e48 : (m7.1 187 0).toInt = ((m5.1 187 0)).toInt := congrArg _ (g46.at (a := 187) (k := 0) (by decide))
        refine ⟨v8, rfl, ?_⟩
        exact ⟨w_m7, f_m7, _, rfl⟩
    · intro c49
      have k50 := y_eqr (n := 0) rfl c49
      refine (s_X12_lost w_m5).to ?_
      rintro _ m9 ⟨w_m9, g51, v10, rfl⟩
      have f_m9 : Fx (RS [20, 22, 28]) m m9 := f_m5.tr g51 (RS_sub rfl)
      have e52 : (m9.1 187 1).toInt = ((m5.1 187 1)).toInt := congrArg _ (g51.at (a := 187) (k := 1) (by decide))
      have e53 : (m9.1 187 0).toInt = ((m5.1 187 0)).toInt := congrArg _ (g51.at (a := 187) (k := 0) (by decide))
      refine ⟨v10, rfl, ?_⟩
      exact ⟨w_m9, f_m9, _, rfl⟩
set_option maxHeartbeats 4000000 in
theorem l_X12_law {ad : Nat → Nat} {d : Nat} {m0 : Wm}  : ∀ n : Nat, (∀ (m : Wm) (x1 x2 s0 : Int32), WT m → Fx (RS [20, 47]) m0 m → (0 : Int) ≤ s0.toInt → s0.toInt ≤ (1 : Int) → 0 * x1.toInt + 2 < (n : Int) → AW ad E0 μX12_law (d + 1) (fun r m' => WT m' ∧ Fx (RS [20, 47]) m0 m' ∧ ∃ v : Int32, r = some (.int v)) 15 [(0, .ref (ad 187)), (1, .int x1), (2, .int x2)] [.int s0] m) ∧ (∀ (m : Wm) (x1 x2 x3 s0 : Int32), WT m → Fx (RS [20, 47]) m0 m → (0 : Int) ≤ x3.toInt → x3.toInt ≤ (1 : Int) → 0 * x1.toInt + 1 < (n : Int) → AW ad E0 μX12_law (d + 1) (fun r m' => WT m' ∧ Fx (RS [20, 47]) m0 m' ∧ ∃ v : Int32, r = some (.int v)) 50 [(0, .ref (ad 187)), (1, .int x1), (2, .int x2), (3, .int x3)] [.int s0] m) := by
  intro n
  induction n with
  | zero =>
    refine ⟨?_, ?_⟩ <;> intros <;> exfalso <;> omega
  | succ n ih =>
    refine ⟨?_, ?_⟩
    · intro m x1 x2 s0 w f j1 j2 hn
      refine g_X12_law_15  ?_
      refine ⟨?_, ?_⟩
      · intro c1
        have k2 := y_eqr (n := 0) rfl c1
        exact ih.2 _ _ _ _ _ w f (by show (0 : Int) ≤ (s0).toInt; omega) (by show (s0).toInt ≤ (1 : Int); omega) (by show 0 * (x1).toInt + 1 < _; omega)
      · intro c3
        have k4 := y_ner (n := 0) rfl c3
        refine ⟨?_, ?_⟩
        · intro c5
          have k6 := y_ner (n := 1) rfl c5
          refine ⟨?_, ?_⟩
          · intro c7
            have k8 := y_ner (n := 2) rfl c7
            refine ⟨?_, ?_⟩
            · intro c9
              have k10 := y_ner (n := 3) rfl c9
              exact ih.2 _ _ _ _ _ w f (by show (0 : Int) ≤ (s0).toInt; omega) (by show (s0).toInt ≤ (1 : Int); omega) (by show 0 * (x1).toInt + 1 < _; omega)
            · intro c11
              have k12 := y_eqr (n := 3) rfl c11
              exact ih.2 _ _ _ _ _ w f (by show (0 : Int) ≤ (s0).toInt; omega) (by show (s0).toInt ≤ (1 : Int); omega) (by show 0 * (x1).toInt + 1 < _; omega)
          · intro c13
            have k14 := y_eqr (n := 2) rfl c13
            exact ih.2 _ _ _ _ _ w f (by show (0 : Int) ≤ (s0).toInt; omega) (by show (s0).toInt ≤ (1 : Int); omega) (by show 0 * (x1).toInt + 1 < _; omega)
        · intro c15
          have k16 := y_eqr (n := 1) rfl c15
          exact ih.2 _ _ _ _ _ w f (by show (0 : Int) ≤ (s0).toInt; omega) (by show (s0).toInt ≤ (1 : Int); omega) (by show 0 * (x1).toInt + 1 < _; omega)
    · intro m x1 x2 x3 s0 w f j1 j2 hn
      refine g_X12_law_50  ?_
      refine (s_X12_in (x := x1) (lo := (0 : Int32)) (hi := (4 : Int32)) w rfl rfl).to ?_
      rintro _ m1 ⟨w_m1, g1, v2, rfl, p3, p4, p2⟩
      have f_m1 : Fx (RS [20, 47]) m0 m1 := f.tr g1 (RS_sub rfl)
      have p5 : (v2.toInt = 0 ∧ ((x1).toInt < (0 : Int) ∨ (4 : Int) < (x1).toInt)) ∨ (v2.toInt = 1 ∧ (0 : Int) ≤ (x1).toInt ∧ (x1).toInt ≤ (4 : Int)) := p2
      clear p2
      have e6 : (m1.1 187 1).toInt = ((m.1 187 1)).toInt := congrArg _ (g1.at (a := 187) (k := 1) (by decide))
      have e7 : (m1.1 187 0).toInt = ((m.1 187 0)).toInt := congrArg _ (g1.at (a := 187) (k := 0) (by decide))
      refine ⟨v2, rfl, ?_⟩
      refine ⟨?_, ?_⟩
      · intro c8
        have k9 := y_eqr (n := 0) rfl c8
        exact ⟨w_m1, f_m1, _, rfl⟩
      · intro c10
        have k11 := y_ner (n := 0) rfl c10
        refine (s_X12_in (x := x2) (lo := x3) (hi := s0) w_m1 rfl rfl).to ?_
        rintro _ m3 ⟨w_m3, g12, v4, rfl, p14, p15, p13⟩
        have f_m3 : Fx (RS [20, 47]) m0 m3 := f_m1.tr g12 (RS_sub rfl)
        have p16 : (v4.toInt = 0 ∧ ((x2).toInt < (x3).toInt ∨ (s0).toInt < (x2).toInt)) ∨ (v4.toInt = 1 ∧ (x3).toInt ≤ (x2).toInt ∧ (x2).toInt ≤ (s0).toInt) := p13
        clear p13
        have e17 : (m3.1 187 1).toInt = ((m1.1 187 1)).toInt := congrArg _ (g12.at (a := 187) (k := 1) (by decide))
        have e18 : (m3.1 187 0).toInt = ((m1.1 187 0)).toInt := congrArg _ (g12.at (a := 187) (k := 0) (by decide))
        refine ⟨v4, rfl, ?_⟩
        refine ⟨?_, ?_⟩
        · intro c19
          have k20 := y_ner (n := 0) rfl c19
          refine ⟨?_, ?_⟩
          · exact vpi (by omega) (by omega)
          · refine ⟨?_, ?_⟩
            · exact vpi (by omega) (by omega)
            · have w21 : WT (uI m3 193 x1.toNatClampNeg x2) := w_m3.n rfl
              have f21 : Fx (RS [20, 47]) m0 (uI m3 193 x1.toNatClampNeg x2) := f_m3.i rfl
              exact ⟨w21, f21, _, rfl⟩
        · intro c22
          have k23 := y_eqr (n := 0) rfl c22
          exact ⟨w_m3, f_m3, _, rfl⟩
set_option maxHeartbeats 4000000 in
theorem s_X12_law {ad : Nat → Nat} {d : Nat} {m : Wm} {x1 x2 : Int32} (w : WT m) : Ct ad μX12_law (d + 1) [.ref (ad 187), .int x1, .int x2] m (fun r m' => WT m' ∧ Fx (RS [20, 47]) m m' ∧ ∃ v : Int32, r = some (.int v)) := by
  have f : Fx (RS [20, 47]) m m := Fx.rf
  refine v_X12_law  ?_
  refine ⟨?_, ?_⟩
  · intro c1
    have k2 := y_ner (n := 1) rfl c1
    have w3 : WT (uI m 187 17 (0 : Int32)) := w.n rfl
    have f3 : Fx (RS [20, 47]) m (uI m 187 17 (0 : Int32)) := f.i rfl
    exact (l_X12_law (m0 := m) 1000000).1 _ _ _ _ w3 f3 (by show (0 : Int) ≤ (0 : Int); omega) (by show (0 : Int) ≤ (1 : Int); omega) (by show 0 * (x1).toInt + 2 < _; omega)
  · intro c4
    have k5 := y_eqr (n := 1) rfl c4
    have w6 : WT (uI m 187 17 (0 : Int32)) := w.n rfl
    have f6 : Fx (RS [20, 47]) m (uI m 187 17 (0 : Int32)) := f.i rfl
    exact (l_X12_law (m0 := m) 1000000).1 _ _ _ _ w6 f6 (by show (0 : Int) ≤ (1 : Int); omega) (by show (1 : Int) ≤ (1 : Int); omega) (by show 0 * (x1).toInt + 2 < _; omega)
set_option maxHeartbeats 4000000 in
theorem l_X12_sheet {ad : Nat → Nat} {d : Nat} {m0 : Wm}  : ∀ n : Nat, (∀ (m : Wm) (x1 x2 x3 x5 x6 x7 x8 : Int32), WT m → Fx (RS [20, 24, 29]) m0 m → (0 : Int) ≤ x1.toInt → x1.toInt ≤ (3 : Int) → (0 : Int) ≤ x8.toInt → x8.toInt ≤ (8 : Int) → (8 - x8.toInt) * 3 + 2 < (n : Int) → AW ad E0 μX12_sheet (d + 2) (fun r m' => WT m' ∧ Fx (RS [20, 24, 29]) m0 m' ∧ ∃ v : Int32, r = some (.int v)) 55 [(0, .ref (ad 187)), (1, .int x1), (2, .int x2), (3, .int x3), (5, .int x5), (6, .int x6), (7, .int x7), (8, .int x8)] [] m) ∧ (∀ (m : Wm) (x1 x2 x3 x5 x6 x7 x8 s0 : Int32), WT m → Fx (RS [20, 24, 29]) m0 m → (0 : Int) ≤ x1.toInt → x1.toInt ≤ (3 : Int) → (0 : Int) ≤ x8.toInt → x8.toInt ≤ (7 : Int) → (8 - x8.toInt) * 3 + 1 < (n : Int) → AW ad E0 μX12_sheet (d + 2) (fun r m' => WT m' ∧ Fx (RS [20, 24, 29]) m0 m' ∧ ∃ v : Int32, r = some (.int v)) 87 [(0, .ref (ad 187)), (1, .int x1), (2, .int x2), (3, .int x3), (5, .int x5), (6, .int x6), (7, .int x7), (8, .int x8)] [.int s0] m) ∧ (∀ (m : Wm) (x1 x2 x3 x5 x6 x7 x8 s0 s1 : Int32), WT m → Fx (RS [20, 24, 29]) m0 m → (0 : Int) ≤ x1.toInt → x1.toInt ≤ (3 : Int) → (0 : Int) ≤ x8.toInt → x8.toInt ≤ (7 : Int) → (0 : Int) ≤ s1.toInt → s1.toInt ≤ (31 : Int) → (8 - x8.toInt) * 3 < (n : Int) → AW ad E0 μX12_sheet (d + 2) (fun r m' => WT m' ∧ Fx (RS [20, 24, 29]) m0 m' ∧ ∃ v : Int32, r = some (.int v)) 125 [(0, .ref (ad 187)), (1, .int x1), (2, .int x2), (3, .int x3), (5, .int x5), (6, .int x6), (7, .int x7), (8, .int x8)] [.int s0, .int s1, .ref (ad 188)] m) := by
  intro n
  induction n with
  | zero =>
    refine ⟨?_, ?_, ?_⟩ <;> intros <;> exfalso <;> omega
  | succ n ih =>
    refine ⟨?_, ?_, ?_⟩
    · intro m x1 x2 x3 x5 x6 x7 x8 w f j1 j2 j3 j4 hn
      refine g_X12_sheet_55  ?_
      refine ⟨?_, ?_⟩
      · intro c1
        have r2 := w.at (a := 187) (k := 1) rfl
        have k3 := z_le c1
        refine ⟨?_, ?_⟩
        · intro c4
          have k5 := y_ner (n := 3) rfl c4
          have w6 : WT (uI m 187 30 (0 : Int32)) := w.t rfl (by show (0 : Int) ≤ (0 : Int); omega) (by show (0 : Int) ≤ 20; omega)
          have f6 : Fx (RS [20, 24, 29]) m0 (uI m 187 30 (0 : Int32)) := f.i rfl
          exact ⟨w6, f6, _, rfl⟩
        · intro c7
          have k8 := y_eqr (n := 3) rfl c7
          have w9 : WT (uI m 187 30 (0 : Int32)) := w.t rfl (by show (0 : Int) ≤ (0 : Int); omega) (by show (0 : Int) ≤ 20; omega)
          have f9 : Fx (RS [20, 24, 29]) m0 (uI m 187 30 (0 : Int32)) := f.i rfl
          exact ⟨w9, f9, _, rfl⟩
      · intro c10
        have r11 := w.at (a := 187) (k := 1) rfl
        have k12 := z_nle c10
        refine ⟨?_, ?_⟩
        · intro c13
          have k14 := y_ner (n := 0) rfl c13
          refine ⟨?_, ?_⟩
          · intro c15
            have k16 := y_ner (n := 1) rfl c15
            exact ih.2.1 _ _ _ _ _ _ _ _ _ w f (by show (0 : Int) ≤ (x1).toInt; omega) (by show (x1).toInt ≤ (3 : Int); omega) (by show (0 : Int) ≤ (x8).toInt; omega) (by show (x8).toInt ≤ (7 : Int); omega) (by show (8 - (x8).toInt) * 3 + 1 < _; omega)
          · intro c17
            have k18 := y_eqr (n := 1) rfl c17
            exact ih.2.1 _ _ _ _ _ _ _ _ _ w f (by show (0 : Int) ≤ (x1).toInt; omega) (by show (x1).toInt ≤ (3 : Int); omega) (by show (0 : Int) ≤ (x8).toInt; omega) (by show (x8).toInt ≤ (7 : Int); omega) (by show (8 - (x8).toInt) * 3 + 1 < _; omega)
        · intro c19
          have k20 := y_eqr (n := 0) rfl c19
          exact ih.2.1 _ _ _ _ _ _ _ _ _ w f (by show (0 : Int) ≤ (x1).toInt; omega) (by show (x1).toInt ≤ (3 : Int); omega) (by show (0 : Int) ≤ (x8).toInt; omega) (by show (x8).toInt ≤ (7 : Int); omega) (by show (8 - (x8).toInt) * 3 + 1 < _; omega)
    · intro m x1 x2 x3 x5 x6 x7 x8 s0 w f j1 j2 j3 j4 hn
      refine g_X12_sheet_87  ?_
      refine ⟨?_, ?_⟩
      · intro c1
        have k2 := y_eqr (n := 3) rfl c1
        have t3 := ti_mulc (c := 4) (y := (4 : Int32)) (x := x8) rfl (by omega)
        have t4 := ti_add (x := ((4 : Int32) * x8)) (y := x1) (by omega)
        exact ih.2.2 _ _ _ _ _ _ _ _ _ _ w f (by show (0 : Int) ≤ (x1).toInt; omega) (by show (x1).toInt ≤ (3 : Int); omega) (by show (0 : Int) ≤ (x8).toInt; omega) (by show (x8).toInt ≤ (7 : Int); omega) (by show (0 : Int) ≤ ((((4 : Int32) * x8) + x1)).toInt; omega) (by show ((((4 : Int32) * x8) + x1)).toInt ≤ (31 : Int); omega) (by show (8 - (x8).toInt) * 3 < _; omega)
      · intro c5
        have k6 := y_ner (n := 3) rfl c5
        refine ⟨?_, ?_⟩
        · intro c7
          have k8 := z_lt c7
          have t9 := ti_mulc (c := 4) (y := (4 : Int32)) (x := x8) rfl (by omega)
          have t10 := ti_add (x := ((4 : Int32) * x8)) (y := x1) (by omega)
          exact ih.2.2 _ _ _ _ _ _ _ _ _ _ w f (by show (0 : Int) ≤ (x1).toInt; omega) (by show (x1).toInt ≤ (3 : Int); omega) (by show (0 : Int) ≤ (x8).toInt; omega) (by show (x8).toInt ≤ (7 : Int); omega) (by show (0 : Int) ≤ ((((4 : Int32) * x8) + x1)).toInt; omega) (by show ((((4 : Int32) * x8) + x1)).toInt ≤ (31 : Int); omega) (by show (8 - (x8).toInt) * 3 < _; omega)
        · intro c11
          have k12 := z_nlt c11
          have t13 := ti_mulc (c := 4) (y := (4 : Int32)) (x := x8) rfl (by omega)
          have t14 := ti_add (x := ((4 : Int32) * x8)) (y := x1) (by omega)
          exact ih.2.2 _ _ _ _ _ _ _ _ _ _ w f (by show (0 : Int) ≤ (x1).toInt; omega) (by show (x1).toInt ≤ (3 : Int); omega) (by show (0 : Int) ≤ (x8).toInt; omega) (by show (x8).toInt ≤ (7 : Int); omega) (by show (0 : Int) ≤ ((((4 : Int32) * x8) + x1)).toInt; omega) (by show ((((4 : Int32) * x8) + x1)).toInt ≤ (31 : Int); omega) (by show (8 - (x8).toInt) * 3 < _; omega)
    · intro m x1 x2 x3 x5 x6 x7 x8 s0 s1 w f j1 j2 j3 j4 j5 j6 hn
      refine g_X12_sheet_125 ly_188 ?_
      refine ⟨?_, ?_⟩
      · exact vpi (by omega) (by omega)
      · refine ⟨?_, ?_⟩
        · have t1 := ti_mulc (c := 4) (y := (4 : Int32)) (x := x8) rfl (by omega)
          have t2 := ti_add (x := ((4 : Int32) * x8)) (y := x1) (by omega)
          exact vpi (by omega) (by omega)
        · have w3 : WT (uI m 188 s1.toNatClampNeg s0) := w.n rfl
          have f3 : Fx (RS [20, 24, 29]) m0 (uI m 188 s1.toNatClampNeg s0) := f.i rfl
          have t4 := ti_addc (x := x8) (y := (1 : Int32)) (c := 1) rfl (by omega)
          exact ih.1 _ _ _ _ _ _ _ _ w3 f3 (by show (0 : Int) ≤ (x1).toInt; omega) (by show (x1).toInt ≤ (3 : Int); omega) (by show (0 : Int) ≤ ((x8 + (1 : Int32))).toInt; omega) (by show ((x8 + (1 : Int32))).toInt ≤ (8 : Int); omega) (by show (8 - ((x8 + (1 : Int32))).toInt) * 3 + 2 < _; omega)
set_option maxHeartbeats 4000000 in
theorem s_X12_sheet {ad : Nat → Nat} {d : Nat} {m : Wm} {x1 x2 x3 x4 x5 : Int32} (w : WT m) : Ct ad μX12_sheet (d + 2) [.ref (ad 187), .int x1, .int x2, .int x3, .int x4, .int x5] m (fun r m' => WT m' ∧ Fx (RS [20, 24, 29]) m m' ∧ ∃ v : Int32, r = some (.int v)) := by
  have f : Fx (RS [20, 24, 29]) m m := Fx.rf
  refine v_X12_sheet  ?_
  have w1 : WT (uI m 187 17 (0 : Int32)) := w.n rfl
  have f1 : Fx (RS [20, 24, 29]) m (uI m 187 17 (0 : Int32)) := f.i rfl
  refine (s_X12_isArt w1).to ?_
  rintro _ m1 ⟨w_m1, g2, v2, rfl, p4, p5, p3⟩
  have f_m1 : Fx (RS [20, 24, 29]) m m1 := f1.tr g2 (RS_sub rfl)
  have p6 : (v2.toInt = 0 ∧ ((x1).toInt < 0 ∨ ((m.1 187 0)).toInt ≤ (x1).toInt)) ∨ (v2.toInt = 1 ∧ 0 ≤ (x1).toInt ∧ (x1).toInt < ((m.1 187 0)).toInt) := p3
  clear p3
  have e7 : (m1.1 187 1).toInt = ((m.1 187 1)).toInt := congrArg _ (g2.at (a := 187) (k := 1) (by decide))
  have e8 : (m1.1 187 0).toInt = ((m.1 187 0)).toInt := congrArg _ (g2.at (a := 187) (k := 0) (by decide))
  refine ⟨v2, rfl, ?_⟩
  refine ⟨?_, ?_⟩
  · intro c9
    have k10 := y_eqr (n := 0) rfl c9
    exact ⟨w_m1, f_m1, _, rfl⟩
  · intro c11
    have k12 := y_ner (n := 0) rfl c11
    have r13 := w.at (a := 187) (k := 0) rfl
    refine (s_X12_in (x := x2) (lo := (0 : Int32)) (hi := (3 : Int32)) w_m1 rfl rfl).to ?_
    rintro _ m3 ⟨w_m3, g14, v4, rfl, p16, p17, p15⟩
    have f_m3 : Fx (RS [20, 24, 29]) m m3 := f_m1.tr g14 (RS_sub rfl)
    have p18 : (v4.toInt = 0 ∧ ((x2).toInt < (0 : Int) ∨ (3 : Int) < (x2).toInt)) ∨ (v4.toInt = 1 ∧ (0 : Int) ≤ (x2).toInt ∧ (x2).toInt ≤ (3 : Int)) := p15
    clear p15
    have e19 : (m3.1 187 1).toInt = ((m1.1 187 1)).toInt := congrArg _ (g14.at (a := 187) (k := 1) (by decide))
    have e20 : (m3.1 187 0).toInt = ((m1.1 187 0)).toInt := congrArg _ (g14.at (a := 187) (k := 0) (by decide))
    refine ⟨v4, rfl, ?_⟩
    refine ⟨?_, ?_⟩
    · intro c21
      have k22 := y_eqr (n := 0) rfl c21
      exact ⟨w_m3, f_m3, _, rfl⟩
    · intro c23
      have k24 := y_ner (n := 0) rfl c23
      refine ⟨?_, ?_⟩
      · intro c25
        have k26 := y_ler (n := 8) rfl c25
        refine ⟨?_, ?_⟩
        · intro c27
          have k28 := y_lel (n := 3) rfl c27
          exact (l_X12_sheet (m0 := m) 1000000).1 _ _ _ _ _ _ _ _ w_m3 f_m3 (by show (0 : Int) ≤ (x1).toInt; omega) (by show (x1).toInt ≤ (3 : Int); omega) (by show (0 : Int) ≤ (0 : Int); omega) (by show (0 : Int) ≤ (8 : Int); omega) (by show (8 - (0 : Int)) * 3 + 2 < _; omega)
        · intro c29
          have k30 := y_nlel (n := 3) rfl c29
          refine ⟨?_, ?_⟩
          · intro c31
            have k32 := y_lel (n := 0) rfl c31
            exact (l_X12_sheet (m0 := m) 1000000).1 _ _ _ _ _ _ _ _ w_m3 f_m3 (by show (0 : Int) ≤ (x1).toInt; omega) (by show (x1).toInt ≤ (3 : Int); omega) (by show (0 : Int) ≤ (0 : Int); omega) (by show (0 : Int) ≤ (8 : Int); omega) (by show (8 - (0 : Int)) * 3 + 2 < _; omega)
          · intro c33
            have k34 := y_nlel (n := 0) rfl c33
            exact ⟨w_m3, f_m3, _, rfl⟩
      · intro c35
        have k36 := y_nler (n := 8) rfl c35
        exact ⟨w_m3, f_m3, _, rfl⟩
set_option maxHeartbeats 4000000 in
theorem s_X12_ill {ad : Nat → Nat} {d : Nat} {m : Wm} {x1 x2 : Int32} (w : WT m) : Ct ad μX12_ill (d + 2) [.ref (ad 187), .int x1, .int x2] m (fun r m' => WT m' ∧ Fx (RS [20, 46]) m m' ∧ ∃ v : Int32, r = some (.int v) ∧ (0 : Int) ≤ v.toInt ∧ v.toInt ≤ 1 ∧ ((v.toInt = 0 ∧ (x1.toInt < 0 ∨ (m.1 187 1).toInt ≤ x1.toInt)) ∨ (v.toInt = 1 ∧ 0 ≤ x1.toInt ∧ x1.toInt < (m.1 187 1).toInt))) := by
  have f : Fx (RS [20, 46]) m m := Fx.rf
  refine v_X12_ill  ?_
  have w1 : WT (uI m 187 17 (0 : Int32)) := w.n rfl
  have f1 : Fx (RS [20, 46]) m (uI m 187 17 (0 : Int32)) := f.i rfl
  refine (s_X12_isSide w1).to ?_
  rintro _ m1 ⟨w_m1, g2, v2, rfl, p4, p5, p3⟩
  have f_m1 : Fx (RS [20, 46]) m m1 := f1.tr g2 (RS_sub rfl)
  have p6 : (v2.toInt = 0 ∧ ((x1).toInt < 0 ∨ ((m.1 187 1)).toInt ≤ (x1).toInt)) ∨ (v2.toInt = 1 ∧ 0 ≤ (x1).toInt ∧ (x1).toInt < ((m.1 187 1)).toInt) := p3
  clear p3
  have e7 : (m1.1 187 1).toInt = ((m.1 187 1)).toInt := congrArg _ (g2.at (a := 187) (k := 1) (by decide))
  have e8 : (m1.1 187 0).toInt = ((m.1 187 0)).toInt := congrArg _ (g2.at (a := 187) (k := 0) (by decide))
  refine ⟨v2, rfl, ?_⟩
  refine ⟨?_, ?_⟩
  · intro c9
    have k10 := y_ner (n := 0) rfl c9
    have r11 := w.at (a := 187) (k := 1) rfl
    refine ⟨?_, ?_⟩
    · exact vpi (by omega) (by omega)
    · have w12 : WT (uI m1 189 x1.toNatClampNeg (vp_nar .boolean x2)) := w_m1.n rfl
      have f12 : Fx (RS [20, 46]) m (uI m1 189 x1.toNatClampNeg (vp_nar .boolean x2)) := f_m1.i rfl
      exact ⟨w12, f12, _, rfl, (by show (0 : Int) ≤ (1 : Int); omega), (by show (1 : Int) ≤ (1 : Int); omega), (by show ((1 : Int) = 0 ∧ (x1.toInt < 0 ∨ (m.1 187 1).toInt ≤ x1.toInt)) ∨ ((1 : Int) = 1 ∧ 0 ≤ x1.toInt ∧ x1.toInt < (m.1 187 1).toInt); omega)⟩
  · intro c13
    have k14 := y_eqr (n := 0) rfl c13
    exact ⟨w_m1, f_m1, _, rfl, (by show (0 : Int) ≤ (0 : Int); omega), (by show (0 : Int) ≤ (1 : Int); omega), (by show ((0 : Int) = 0 ∧ (x1.toInt < 0 ∨ (m.1 187 1).toInt ≤ x1.toInt)) ∨ ((0 : Int) = 1 ∧ 0 ≤ x1.toInt ∧ x1.toInt < (m.1 187 1).toInt); omega)⟩
