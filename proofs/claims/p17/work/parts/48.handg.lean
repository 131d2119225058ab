/-! SEARCHES (model): findRest, findStates, tellWay -/
section ST3
variable {ad : Nat → Nat} {m : Wm}
theorem findRest_ok {d : Nat} (w : WT m) : Ct ad μX12_findRest (d + 177) [.ref (ad 187)] m (fun r m' => WT m' ∧ Fx (RS [22, 24, 28, 34, 35, 49]) m m' ∧ ST m' ∧ 1 ≤ (m'.1 187 43).toInt ∧ ∃ v : Int32, r = some (.int v) ∧ (0 : Int) ≤ v.toInt ∧ v.toInt ≤ 1 ∧ (v.toInt = 0 ∨ (1 ≤ (m'.1 187 46).toInt ∧ (m'.1 187 45).toInt + (m'.1 187 46).toInt ≤ 2000))) := by
  have z0 : (0 : Int32).toInt = 0 := rfl
  have z1 : (1 : Int32).toInt = 1 := rfl
  have zn1 : (-1 : Int32).toInt = -1 := rfl
  have L : ∀ n : Nat, ∀ (m1 : Wm) (x1 : Int32) (t : Nat), t + n = 2001 → 1 ≤ t → WT m1 → Fx (RS [22, 24, 28, 34, 35, 49]) m m1 → ST m1 → 1 ≤ (m1.1 187 43).toInt → (m1.1 187 43).toInt ≤ (t : Int) → 0 ≤ x1.toInt → x1.toInt ≤ 1 → (x1.toInt = 0 ∨ (1 ≤ (m1.1 187 46).toInt ∧ (m1.1 187 45).toInt + (m1.1 187 46).toInt ≤ 2000)) →
      AW ad E0 μX12_findRest (d + 177) (fun r m' => WT m' ∧ Fx (RS [22, 24, 28, 34, 35, 49]) m m' ∧ ST m' ∧ 1 ≤ (m'.1 187 43).toInt ∧ ∃ v : Int32, r = some (.int v) ∧ (0 : Int) ≤ v.toInt ∧ v.toInt ≤ 1 ∧ (v.toInt = 0 ∨ (1 ≤ (m'.1 187 46).toInt ∧ (m'.1 187 45).toInt + (m'.1 187 46).toInt ≤ 2000))) 18 [(0, .ref (ad 187)), (1, .int x1), (2, .int (nI t))] [] m1 := by
    intro n
    induction n with
    | zero =>
      intro m1 x1 t ht h1 w1 f1 s1 a1 a2 a3 a4 a5
      refine g_X12_findRest_18 ⟨fun _ => ?_, fun c => absurd ((lt_l 2000 2000 rfl (by omega) (by omega)).mpr (by omega)) c⟩
      refine g_X12_findRest_90 ((s_X12_bring_204 w1 (by decide) (by decide)).to ?_)
      rintro _ m2 ⟨w2, f2, rfl⟩
      have e1 := f2.at (a := 187) (k := 43) (by decide)
      have e2 := f2.at (a := 187) (k := 45) (by decide)
      have e3 := f2.at (a := 187) (k := 46) (by decide)
      exact ⟨rfl, bz_of (by omega) (by omega), w2, f1.tr f2 (RS_sub rfl), s1.fx f2 rfl, by rw [e1]; exact a1, x1, rfl, a3, a4, by rw [e2, e3]; exact a5⟩
    | succ n ih =>
      intro m1 x1 t ht h1 w1 f1 s1 a1 a2 a3 a4 a5
      refine g_X12_findRest_18 ⟨fun c => absurd ((lt_l 2000 2000 rfl (by omega) (by omega)).mp c) (by omega), fun _ => ⟨fun c => ?_, fun c => ?_⟩⟩
      · refine g_X12_findRest_90 ((s_X12_bring_204 w1 (by decide) (by decide)).to ?_)
        rintro _ m2 ⟨w2, f2, rfl⟩
        have e1 := f2.at (a := 187) (k := 43) (by decide)
        have e2 := f2.at (a := 187) (k := 45) (by decide)
        have e3 := f2.at (a := 187) (k := 46) (by decide)
        exact ⟨rfl, bz_of (by omega) (by omega), w2, f1.tr f2 (RS_sub rfl), s1.fx f2 rfl, by rw [e1]; exact a1, x1, rfl, a3, a4, by rw [e2, e3]; exact a5⟩
      · refine (s_X12_goTurn w1).to ?_
        rintro _ m2 ⟨w2, f2, rfl⟩
        have e1 := f2.at (a := 187) (k := 43) (by decide)
        have s2 := s1.fx f2 rfl
        refine ⟨rfl, (s_X12_stateNow w2 s2 (Or.inl zn1)).to ?_⟩
        rintro _ m3 ⟨w3, f3, s3, b1, b2, v, rfl, b3, b4, b5, b6⟩
        rw [e1] at b1 b2 b5
        have hv : v.toInt ≠ -1 := fun q => by have := b5 q; omega
        have f3' : Fx (RS [22, 24, 28, 34, 35, 49]) m m3 := (f1.tr f2 (RS_sub rfl)).tr f3 (RS_sub rfl)
        refine ⟨v, rfl, fun c3 => ?_, fun c3 => ?_⟩
        · refine g_X12_findRest_62 ⟨fun q => absurd rfl q, fun _ => ?_⟩
          rw [nI_1]
          exact ih m3 0 (t + 1) (by omega) (by omega) w3 f3' s3 (by omega) (by omega) (by decide) (by decide) (Or.inl rfl)
        · have c4 : (m3.1 187 43).toInt = (m2.1 187 43).toInt := congrArg _ c3
          rw [e1] at c4
          refine g_X12_findRest_62 ⟨fun _ => ?_, fun q => absurd q (by decide)⟩
          have tt : (nI t).toInt = (t : Int) := nI_toInt (by omega)
          have q1 := ti_sub (x := nI t) (y := v) (by omega)
          rw [nI_1]
          refine ih _ 1 (t + 1) (by omega) (by omega) ((w3.t rfl (by omega) (by omega)).t rfl (by rw [q1]; omega) (by rw [q1]; omega)) ((f3'.i rfl).i rfl) s3 (by show 1 ≤ (m3.1 187 43).toInt; omega) (by show (m3.1 187 43).toInt ≤ _; omega) (by decide) (by decide) (Or.inr ?_)
          show 1 ≤ (nI t - v).toInt ∧ v.toInt + (nI t - v).toInt ≤ 2000
          rw [q1]
          omega
  refine v_X12_findRest ((s_X12_clearStates w).to ?_)
  rintro _ m1 ⟨w1, f1, rfl, s1, e1⟩
  refine ⟨rfl, (s_X12_stateNow w1 s1 (Or.inl zn1)).to ?_⟩
  rintro _ m2 ⟨w2, f2, s2, b1, b2, v, rfl, b3, b4, b5, b6⟩
  refine ⟨v, rfl, ?_⟩
  exact L 2000 m2 0 1 (by decide) (by decide) w2 (((Fx.rf (S := RS [22, 24, 28, 34, 35, 49])).tr f1 (RS_sub rfl)).tr f2 (RS_sub rfl)) s2 (by omega) (by omega) (by decide) (by decide) (Or.inl rfl)
theorem s_X12_findRest {d : Nat} (w : WT m) : Ct ad μX12_findRest (d + 177) [.ref (ad 187)] m (fun r m' => WT m' ∧ Fx (RS [22, 24, 28, 34, 35, 49]) m m' ∧ ∃ v : Int32, r = some (.int v) ∧ (0 : Int) ≤ v.toInt ∧ v.toInt ≤ 1 ∧ (v.toInt = 0 ∨ (1 ≤ (m'.1 187 46).toInt ∧ (m'.1 187 45).toInt + (m'.1 187 46).toInt ≤ 2000))) :=
  (findRest_ok w).to (by rintro _ m' ⟨h1, h2, -, -, h3⟩; exact ⟨h1, h2, h3⟩)
end ST3
section ST4
variable {ad : Nat → Nat} {m : Wm}
def fsQ (m : Wm) (r : Option Value) (m' : Wm) : Prop := WT m' ∧ Fx (RS [22, 24, 28, 34, 35, 49]) m m' ∧ ST m' ∧ 1 ≤ (m'.1 187 43).toInt ∧ ∃ v : Int32, r = some (.int v) ∧ (0 : Int) ≤ v.toInt ∧ v.toInt ≤ 1
def fsI (m m1 : Wm) (x2 x3 : Int32) : Prop := WT m1 ∧ Fx (RS [22, 24, 28, 34, 35, 49]) m m1 ∧ ST m1 ∧ 1 ≤ (m1.1 187 43).toInt ∧ 0 ≤ x2.toInt ∧ x2.toInt ≤ 1 ∧ 0 ≤ x3.toInt
theorem fs_loop {d : Nat} {x1 : Int32} : ∀ n : Nat,
    (∀ (m1 : Wm) (x2 x3 : Int32), fsI m m1 x2 x3 → x3.toInt ≤ 3000 → (3000 - x3.toInt) * 1000 + 900 < (n : Int) → AW ad E0 μX12_findStates (d + 177) (fsQ m) 18 [(0, .ref (ad 187)), (1, .int x1), (2, .int x2), (3, .int x3)] [] m1) ∧
    (∀ (m1 : Wm) (x2 x3 x4 : Int32), fsI m m1 x2 x3 → x3.toInt < (m1.1 187 43).toInt → 0 ≤ x4.toInt → x4.toInt ≤ 3 → (3000 - x3.toInt) * 1000 + (3 - x4.toInt) * 200 + 190 < (n : Int) → AW ad E0 μX12_findStates (d + 177) (fsQ m) 46 [(0, .ref (ad 187)), (1, .int x1), (2, .int x2), (3, .int x3), (4, .int x4)] [] m1) ∧
    (∀ (m1 : Wm) (x2 x3 x4 x5 : Int32), fsI m m1 x2 x3 → x3.toInt < (m1.1 187 43).toInt → 0 ≤ x4.toInt → x4.toInt ≤ 2 → 0 ≤ x5.toInt → x5.toInt ≤ 8 → (3000 - x3.toInt) * 1000 + (3 - x4.toInt) * 200 + (8 - x5.toInt) * 20 + 19 < (n : Int) → AW ad E0 μX12_findStates (d + 177) (fsQ m) 55 [(0, .ref (ad 187)), (1, .int x1), (2, .int x2), (3, .int x3), (4, .int x4), (5, .int x5)] [] m1) ∧
    (∀ (m1 : Wm) (x2 x3 x4 x5 x6 : Int32), fsI m m1 x2 x3 → x3.toInt < (m1.1 187 43).toInt → 0 ≤ x4.toInt → x4.toInt ≤ 2 → 0 ≤ x5.toInt → x5.toInt ≤ 7 → 0 ≤ x6.toInt → x6.toInt ≤ 9 → (3000 - x3.toInt) * 1000 + (3 - x4.toInt) * 200 + (8 - x5.toInt) * 20 + (9 - x6.toInt) < (n : Int) → AW ad E0 μX12_findStates (d + 177) (fsQ m) 70 [(0, .ref (ad 187)), (1, .int x1), (2, .int x2), (3, .int x3), (4, .int x4), (5, .int x5), (6, .int x6)] [] m1) := by
  intro n
  have z0 : (0 : Int32).toInt = 0 := rfl
  have z1 : (1 : Int32).toInt = 1 := rfl
  have zn1 : (-1 : Int32).toInt = -1 := rfl
  induction n with
  | zero =>
    refine ⟨fun m1 x2 x3 I a b => ?_, fun m1 x2 x3 x4 I a b c e => ?_, fun m1 x2 x3 x4 x5 I a b c e f g => ?_, fun m1 x2 x3 x4 x5 x6 I a b c e f g h i => ?_⟩
    all_goals have t43 := I.1.at (a := 187) (k := 43) rfl
    all_goals exfalso
    all_goals omega
  | succ n ih =>
    have fin : ∀ (m1 : Wm) (x2 x3 : Int32), fsI m m1 x2 x3 → AW ad E0 μX12_findStates (d + 177) (fsQ m) 154 [(0, .ref (ad 187)), (2, .int x2)] [] m1 := by
      intro m1 x2 x3 ⟨w1, f1, s1, a1, a2, a3, a4⟩
      refine g_X12_findStates_154 ((s_X12_bring_204 w1 (by decide) (by decide)).to ?_)
      rintro _ m2 ⟨w2, f2, rfl⟩
      have e1 := f2.at (a := 187) (k := 43) (by decide)
      exact ⟨rfl, bz_of (by omega) (by omega), w2, f1.tr f2 (RS_sub rfl), s1.fx f2 rfl, by rw [e1]; exact a1, x2, rfl, a2, a3⟩
    refine ⟨fun m1 x2 x3 I a b => ?_, fun m1 x2 x3 x4 I a b c e => ?_, fun m1 x2 x3 x4 x5 I a b c e f g => ?_, fun m1 x2 x3 x4 x5 x6 I a b c e f g h i => ?_⟩
    · have I' := I
      obtain ⟨w1, f1, s1, a1, a2, a3, a4⟩ := I
      have t43 := w1.at (a := 187) (k := 43) rfl
      refine g_X12_findStates_18 ⟨fun _ => fin _ _ _ I', fun c => ⟨fun _ => fin _ _ _ I', fun _ => ?_⟩⟩
      have c' := z_nle c
      have t1 := ti_addc (x := x3) (y := 1) (c := 1) rfl (by omega)
      refine ⟨vpi (by omega) (by omega), fun _ => ih.2.1 _ _ _ _ I' (by omega) (by decide) (by decide) (by omega), fun _ => ih.1 _ _ _ ⟨w1, f1, s1, a1, a2, a3, by omega⟩ (by omega) (by omega)⟩
    · have I' := I
      obtain ⟨w1, f1, s1, a1, a2, a3, a4⟩ := I
      have t43 := w1.at (a := 187) (k := 43) rfl
      have t1 := ti_addc (x := x3) (y := 1) (c := 1) rfl (by omega)
      refine g_X12_findStates_46 ⟨fun _ => ih.1 _ _ _ ⟨w1, f1, s1, a1, a2, a3, by omega⟩ (by omega) (by omega), fun q => ?_⟩
      have q' := y_nlel (n := 3) rfl q
      exact ih.2.2.1 _ _ _ _ _ I' a b (by omega) (by decide) (by decide) (by omega)
    · have I' := I
      obtain ⟨w1, f1, s1, a1, a2, a3, a4⟩ := I
      have t43 := w1.at (a := 187) (k := 43) rfl
      have t11 := w1.at (a := 187) (k := 1) rfl
      have t1 := ti_addc (x := x4) (y := 1) (c := 1) rfl (by omega)
      have t2 := ti_addc (x := x5) (y := 1) (c := 1) rfl (by omega)
      refine g_X12_findStates_55 ⟨fun _ => ih.2.1 _ _ _ _ I' a (by omega) (by omega) (by omega), fun q => ?_⟩
      have q' := z_nle q
      exact ih.2.2.2 _ _ _ _ _ _ I' a b c e (by omega) (by omega) (by omega) (by omega)
    · have I' := I
      obtain ⟨w1, f1, s1, a1, a2, a3, a4⟩ := I
      have t43 := w1.at (a := 187) (k := 43) rfl
      have t11 := w1.at (a := 187) (k := 1) rfl
      have t2 := ti_addc (x := x5) (y := 1) (c := 1) rfl (by omega)
      have nxt := ih.2.2.1 m1 x2 x3 x4 (x5 + 1) I' a b c (by omega) (by omega) (by omega)
      refine g_X12_findStates_70 ⟨fun _ => nxt, fun q => ⟨fun _ => nxt, fun _ => ?_⟩⟩
      have q' := z_nle q
      have t3 := ti_addc (x := x6) (y := 1) (c := 1) rfl (by omega)
      refine (s_X12_load w1 (by omega) (by omega)).to ?_
      rintro _ m2 ⟨w2, f2, rfl⟩
      refine ⟨rfl, (s_X12_goQuiet w2 (by omega) (by omega) (by omega) (by omega)).to ?_⟩
      rintro _ m3 ⟨w3, f3, rfl⟩
      have f3' := (f1.tr f2 (RS_sub rfl)).tr f3 (RS_sub rfl)
      have s3 := (s1.fx f2 rfl).fx f3 rfl
      have e3 : (m3.1 187 43).toInt = (m1.1 187 43).toInt := congrArg _ ((f3.at (a := 187) (k := 43) (by decide)).trans (f2.at (a := 187) (k := 43) (by decide)))
      refine ⟨rfl, (s_X12_stateNow w3 s3 (Or.inr ⟨by omega, by omega⟩)).to ?_⟩
      rintro _ m4 ⟨w4, f4, s4, b1, b2, v, rfl, -⟩
      have f4' := f3'.tr f4 (RS_sub rfl)
      refine ⟨v, rfl, fun _ => ?_, fun _ => ?_⟩
      · exact ih.2.2.2 _ _ _ _ _ _ ⟨w4, f4', s4, by omega, by decide, by decide, a4⟩ (by omega) b c e f (by omega) (by omega) (by omega)
      · exact ih.2.2.2 _ _ _ _ _ _ ⟨w4, f4', s4, by omega, by decide, by decide, a4⟩ (by omega) b c e f (by omega) (by omega) (by omega)
theorem findStates_ok {d : Nat} {x1 : Int32} (w : WT m) : Ct ad μX12_findStates (d + 177) [.ref (ad 187), .int x1] m (fsQ m) := by
  have z0 : (0 : Int32).toInt = 0 := rfl
  have zn1 : (-1 : Int32).toInt = -1 := rfl
  refine v_X12_findStates ((s_X12_clearStates w).to ?_)
  rintro _ m1 ⟨w1, f1, rfl, s1, e1⟩
  refine ⟨rfl, (s_X12_stateNow w1 s1 (Or.inl zn1)).to ?_⟩
  rintro _ m2 ⟨w2, f2, s2, b1, b2, v, rfl, b3, b4, b5, b6⟩
  refine ⟨v, rfl, ?_⟩
  exact (fs_loop 4000000).1 m2 1 0 ⟨w2, ((Fx.rf (S := RS [22, 24, 28, 34, 35, 49])).tr f1 (RS_sub rfl)).tr f2 (RS_sub rfl), s2, by omega, by decide, by decide, by decide⟩ (by decide) (by rw [z0]; decide)
theorem s_X12_findStates {d : Nat} {x1 : Int32} (w : WT m) : Ct ad μX12_findStates (d + 177) [.ref (ad 187), .int x1] m (fun r m' => WT m' ∧ Fx (RS [22, 24, 28, 34, 35, 49]) m m' ∧ ∃ v : Int32, r = some (.int v) ∧ (0 : Int) ≤ v.toInt ∧ v.toInt ≤ 1 ∧ (1 ≤ (m'.1 187 43).toInt)) :=
  (findStates_ok w).to (by rintro _ m' ⟨h1, h2, -, h3, v, h4, h5, h6⟩; exact ⟨h1, h2, v, h4, h5, h6, h3⟩)
theorem tellWay_ok {d : Nat} {x1 : Int32} (w : WT m) (s : ST m) (i1 : 0 ≤ x1.toInt) (i2 : x1.toInt < (m.1 187 43).toInt) : Ct ad μX12_tellWay (d + 1) [.ref (ad 187), .int x1] m (fun r m' => WT m' ∧ Fx (RS [26, 38]) m m' ∧ ∃ v : Int32, r = some (.int v)) := by
  have z0 : (0 : Int32).toInt = 0 := rfl
  have zn1 : (-1 : Int32).toInt = -1 := rfl
  have L2 : ∀ n : Nat, ∀ (m1 : Wm) (x2 : Int32) (k : Nat), k + n = 10 → WT m1 → Fx (RS [26, 38]) m m1 → (m1.1 187 16).toInt = (k : Int) → AW ad E0 μX12_tellWay (d + 1) (fun r m' => WT m' ∧ Fx (RS [26, 38]) m m' ∧ ∃ v : Int32, r = some (.int v)) 53 [(0, .ref (ad 187)), (2, .int x2), (4, .int (nI k))] [] m1 := by
    intro n
    induction n with
    | zero =>
      intro m1 x2 k hk w1 f1 e1
      exact g_X12_tellWay_53 ⟨fun _ => ⟨w1, f1, _, rfl⟩, fun _ => ⟨fun _ => ⟨w1, f1, _, rfl⟩, fun c => absurd ((le_l 10 10 rfl (by omega) (by omega)).mpr (by omega)) c⟩⟩
    | succ n ih =>
      intro m1 x2 k hk w1 f1 e1
      refine g_X12_tellWay_53 ⟨fun _ => ⟨w1, f1, _, rfl⟩, fun _ => ⟨fun _ => ⟨w1, f1, _, rfl⟩, fun c => ⟨nat_in (by omega) (by decide), (s_X12_tell w1 (by omega)).to ?_⟩⟩⟩
      rintro _ m2 ⟨w2, f2, rfl, p2⟩
      refine ⟨rfl, ?_⟩
      rw [nI_1]
      exact ih m2 x2 (k + 1) (by omega) w2 (f1.tr f2 (RS_sub rfl)) (by omega)
  have L1 : ∀ j : Nat, ∀ (m1 : Wm) (x2 x3 x4 : Int32), x4.toInt = (j : Int) - 1 → j ≤ 3000 → WT m1 → Fx (RS [26, 38]) m m1 → ST m1 → (0 < j → 0 ≤ x3.toInt ∧ x3.toInt < (m1.1 187 43).toInt ∧ (m1.1 207 x3.toNatClampNeg).toInt = (j : Int)) → AW ad E0 μX12_tellWay (d + 1) (fun r m' => WT m' ∧ Fx (RS [26, 38]) m m' ∧ ∃ v : Int32, r = some (.int v)) 14 [(0, .ref (ad 187)), (2, .int x2), (3, .int x3), (4, .int x4)] [] m1 := by
    intro j
    induction j with
    | zero =>
      intro m1 x2 x3 x4 e4 hj w1 f1 s1 h
      refine g_X12_tellWay_14 ⟨fun _ => ?_, fun c => absurd (z_nlt c) (by omega)⟩
      exact L2 10 _ x2 0 (by decide) (w1.t rfl (by decide) (by decide)) (f1.i rfl) rfl
    | succ j ih =>
      intro m1 x2 x3 x4 e4 hj w1 f1 s1 h
      have t43 := w1.at (a := 187) (k := 43) rfl
      obtain ⟨h1, h2, h3⟩ := h (by omega)
      refine g_X12_tellWay_14 ⟨fun c => absurd (z_lt c) (by omega), fun _ => ?_⟩
      refine ⟨vpi (by omega) (by omega), vpi (by omega) (by omega), vpi (by omega) (by omega), ?_⟩
      obtain ⟨k, hk, rfl⟩ := zn_of h1
      rw [nI_clamp hk] at h3 ⊢
      rw [nI_toInt hk] at h1 h2
      have w2 : WT (uI m1 212 x4.toNatClampNeg (m1.1 209 k)) := w1.n rfl
      have s2 : ST (uI m1 212 x4.toNatClampNeg (m1.1 209 k)) := s1.fx (S := [38]) ((Fx.rf (m := m1)).i rfl) rfl
      rcases s1.2.2 k h2 with q | ⟨p, q1, q2, q3⟩
      · omega
      · refine ih _ _ _ _ ?_ (by omega) w2 (f1.i rfl) s2 (fun hj0 => ?_)
        · rw [ti_addc (c := -1) zn1 (by omega)]
          omega
        · show 0 ≤ (m1.1 208 k).toInt ∧ (m1.1 208 k).toInt < (m1.1 187 43).toInt ∧ (m1.1 207 (m1.1 208 k).toNatClampNeg).toInt = _
          rw [q1, nI_clamp (by omega), nI_toInt (by omega)]
          omega
  have t43 := w.at (a := 187) (k := 43) rfl
  refine v_X12_tellWay ⟨vpi (by omega) (by omega), ?_⟩
  obtain ⟨k, hk, rfl⟩ := zn_of i1
  rw [nI_clamp hk]
  rw [nI_toInt hk] at i1 i2
  have t207 := w.at (a := 207) (k := k) (lo := 0) (hi := (k : Int)) rfl
  have t1 := ti_subc (x := m.1 207 k) (y := 1) (c := 1) rfl (by omega)
  refine L1 (m.1 207 k).toInt.toNat m _ _ _ (by omega) (by omega) w Fx.rf s (fun hj => ?_)
  rw [nI_clamp hk, nI_toInt hk]
  omega
end ST4
