/-! TOP, QUICK (model): the way told is a way of states that are there -/
section TQ
variable {ad : Nat → Nat} {m : Wm}
theorem s_X12_top {d : Nat} {x1 x2 x3 : Int32} (w : WT m) : Ct ad μX12_top (d + 178) [.ref (ad 187), .int x1, .int x2, .int x3] m (fun r m' => WT m' ∧ Fx (RS [20, 22, 24, 26, 28, 34, 35, 38, 49]) m m' ∧ ∃ v : Int32, r = some (.int v)) := by
  have z0 : (0 : Int32).toInt = 0 := rfl
  have L : ∀ n : Nat, ∀ (m1 : Wm) (k : Nat), k + n = 3001 → WT m1 → Fx (RS [20, 22, 24, 26, 28, 34, 35, 38, 49]) m m1 → ST m1 → 0 ≤ x1.toInt → x1.toInt ≤ 7 → 0 ≤ x2.toInt → x2.toInt ≤ 3 → AW ad E0 μX12_top (d + 178) (fun r m' => WT m' ∧ Fx (RS [20, 22, 24, 26, 28, 34, 35, 38, 49]) m m' ∧ ∃ v : Int32, r = some (.int v)) 51 [(0, .ref (ad 187)), (1, .int x1), (2, .int x2), (3, .int x3), (4, .int (nI k))] [] m1 := by
    intro n
    induction n with
    | zero =>
      intro m1 k hk w1 f1 s1 a1 a2 a3 a4
      have t43 := w1.at (a := 187) (k := 43) rfl
      have tk : (nI k).toInt = (k : Int) := nI_toInt (by omega)
      exact g_X12_top_51 ⟨fun _ => ⟨w1, f1, _, rfl⟩, fun c => absurd (z_nle c) (by omega)⟩
    | succ n ih =>
      intro m1 k hk w1 f1 s1 a1 a2 a3 a4
      have t43 := w1.at (a := 187) (k := 43) rfl
      have tk : (nI k).toInt = (k : Int) := nI_toInt (by omega)
      refine g_X12_top_51 ⟨fun _ => ⟨w1, f1, _, rfl⟩, fun c => ?_⟩
      have c' := z_nle c
      refine (s_X12_skillIn w1 (by omega) (by omega) a1 a2 a3 a4).to ?_
      rintro _ m2 ⟨w2, f2, v, rfl⟩
      have s2 := s1.fx f2 rfl
      have e2 := f2.at (a := 187) (k := 43) (by decide)
      refine ⟨v, rfl, fun _ => ?_, fun _ => (tellWay_ok w2 s2 (by omega) (by rw [e2]; omega)).to ?_⟩
      · rw [nI_1]
        exact ih m2 (k + 1) (by omega) w2 (f1.tr f2 (RS_sub rfl)) s2 a1 a2 a3 a4
      · rintro _ m3 ⟨w3, f3, v3, rfl⟩
        exact ⟨v3, rfl, w3, (f1.tr f2 (RS_sub rfl)).tr f3 (RS_sub rfl), _, rfl⟩
  have w0 : WT (uI m 187 17 0) := w.n rfl
  have f0 : Fx (RS [20, 22, 24, 26, 28, 34, 35, 38, 49]) m (uI m 187 17 0) := Fx.rf.i rfl
  refine v_X12_top ((s_X12_isSide w0).to ?_)
  rintro _ m1 ⟨w1, f1, v1, rfl, a1, a2, a3⟩
  have f1' := f0.tr f1 (RS_sub rfl)
  refine ⟨v1, rfl, fun _ => ⟨w1, f1', _, rfl⟩, fun c1 => (s_X12_isArt w1).to ?_⟩
  rintro _ m2 ⟨w2, f2, v2, rfl, b1, b2, b3⟩
  have f2' := f1'.tr f2 (RS_sub rfl)
  refine ⟨v2, rfl, fun _ => ⟨w2, f2', _, rfl⟩, fun c2 => (s_X12_in (x := x3) (lo := 0) (hi := 7) w2 rfl rfl).to ?_⟩
  rintro _ m3 ⟨w3, f3, v3, rfl, -⟩
  have f3' := f2'.tr f3 (RS_sub rfl)
  refine ⟨v3, rfl, fun _ => (findStates_ok w3).to ?_, fun _ => ⟨w3, f3', _, rfl⟩⟩
  rintro _ m4 ⟨w4, f4, s4, g4, v4, rfl, -⟩
  have f4' := f3'.tr f4 (RS_sub rfl)
  have k1 := z_ne c1
  have k2 := z_ne c2
  have t0 := w0.at (a := 187) (k := 1) rfl
  have t1 := w1.at (a := 187) (k := 0) rfl
  refine ⟨v4, rfl, fun _ => L 3001 m4 0 (by decide) w4 f4' s4 (by omega) (by omega) (by omega) (by omega), fun _ => ⟨w4, f4', _, rfl⟩⟩
theorem s_X12_quick {d : Nat} {x1 : Int32} (w : WT m) : Ct ad μX12_quick (d + 178) [.ref (ad 187), .int x1] m (fun r m' => WT m' ∧ Fx (RS [20, 22, 24, 26, 28, 34, 35, 38, 49]) m m' ∧ ∃ v : Int32, r = some (.int v)) := by
  have z0 : (0 : Int32).toInt = 0 := rfl
  have zn1 : (-1 : Int32).toInt = -1 := rfl
  have w0 : WT (uI m 187 17 0) := w.n rfl
  have f0 : Fx (RS [20, 22, 24, 26, 28, 34, 35, 38, 49]) m (uI m 187 17 0) := Fx.rf.i rfl
  have L100 : ∀ (m1 : Wm) (x2 : Int32), WT m1 → Fx (RS [20, 22, 24, 26, 28, 34, 35, 38, 49]) m m1 → ST m1 → x2.toInt = -1 ∨ (0 ≤ x2.toInt ∧ x2.toInt < (m1.1 187 43).toInt) → AW ad E0 μX12_quick (d + 178) (fun r m' => WT m' ∧ Fx (RS [20, 22, 24, 26, 28, 34, 35, 38, 49]) m m' ∧ ∃ v : Int32, r = some (.int v)) 100 [(0, .ref (ad 187)), (2, .int x2)] [] m1 := by
    intro m1 x2 w1 f1 s1 h
    refine g_X12_quick_100 ((s_X12_bring_204 w1 (by decide) (by decide)).to ?_)
    rintro _ m2 ⟨w2, f2, rfl⟩
    have s2 := s1.fx f2 rfl
    have e2 := f2.at (a := 187) (k := 43) (by decide)
    refine ⟨rfl, fun c => ?_, fun _ => ⟨w2, f1.tr f2 (RS_sub rfl), _, rfl⟩⟩
    have c' := z_ne c
    refine (tellWay_ok w2 s2 (by omega) (by rw [e2]; omega)).to ?_
    rintro _ m3 ⟨w3, f3, v3, rfl⟩
    exact ⟨v3, rfl, w3, (f1.tr f2 (RS_sub rfl)).tr f3 (RS_sub rfl), _, rfl⟩
  have L : ∀ n : Nat, (∀ (m1 : Wm) (x2 x3 : Int32), WT m1 → Fx (RS [20, 22, 24, 26, 28, 34, 35, 38, 49]) m m1 → ST m1 → (x2.toInt = -1 ∨ (0 ≤ x2.toInt ∧ x2.toInt < (m1.1 187 43).toInt)) → 0 ≤ x3.toInt → x3.toInt ≤ 3000 → (3000 - x3.toInt) * 20 + 15 < (n : Int) → AW ad E0 μX12_quick (d + 178) (fun r m' => WT m' ∧ Fx (RS [20, 22, 24, 26, 28, 34, 35, 38, 49]) m m' ∧ ∃ v : Int32, r = some (.int v)) 22 [(0, .ref (ad 187)), (1, .int x1), (2, .int x2), (3, .int x3)] [] m1) ∧
      (∀ (m1 : Wm) (x3 x4 x5 : Int32), WT m1 → Fx (RS [20, 22, 24, 26, 28, 34, 35, 38, 49]) m m1 → ST m1 → 0 ≤ x3.toInt → x3.toInt < (m1.1 187 43).toInt → 0 ≤ x5.toInt → x5.toInt ≤ 8 → (3000 - x3.toInt) * 20 + 10 - x5.toInt < (n : Int) → AW ad E0 μX12_quick (d + 178) (fun r m' => WT m' ∧ Fx (RS [20, 22, 24, 26, 28, 34, 35, 38, 49]) m m' ∧ ∃ v : Int32, r = some (.int v)) 46 [(0, .ref (ad 187)), (1, .int x1), (3, .int x3), (4, .int x4), (5, .int x5)] [] m1) ∧
      (∀ (m1 : Wm) (x3 x4 : Int32), WT m1 → Fx (RS [20, 22, 24, 26, 28, 34, 35, 38, 49]) m m1 → ST m1 → 0 ≤ x3.toInt → x3.toInt < (m1.1 187 43).toInt → (3000 - x3.toInt) * 20 < (n : Int) → AW ad E0 μX12_quick (d + 178) (fun r m' => WT m' ∧ Fx (RS [20, 22, 24, 26, 28, 34, 35, 38, 49]) m m' ∧ ∃ v : Int32, r = some (.int v)) 83 [(0, .ref (ad 187)), (1, .int x1), (3, .int x3), (4, .int x4)] [] m1) := by
    intro n
    induction n with
    | zero =>
      refine ⟨fun m1 x2 x3 w1 f1 s1 h a b c => ?_, fun m1 x3 x4 x5 w1 f1 s1 a b c e g => ?_, fun m1 x3 x4 w1 f1 s1 a b c => ?_⟩
      all_goals have t43 := w1.at (a := 187) (k := 43) rfl
      all_goals exfalso
      all_goals omega
    | succ n ih =>
      refine ⟨fun m1 x2 x3 w1 f1 s1 h a b c => ?_, fun m1 x3 x4 x5 w1 f1 s1 a b c e g => ?_, fun m1 x3 x4 w1 f1 s1 a b c => ?_⟩
      all_goals have t43 := w1.at (a := 187) (k := 43) rfl
      · refine g_X12_quick_22 ⟨fun _ => L100 _ _ w1 f1 s1 h, fun q => ⟨fun _ => L100 _ _ w1 f1 s1 h, fun _ => ?_⟩⟩
        have q' := z_nle q
        refine (s_X12_load w1 (by omega) (by omega)).to ?_
        rintro _ m2 ⟨w2, f2, rfl⟩
        have e2 := f2.at (a := 187) (k := 43) (by decide)
        exact ⟨rfl, ih.2.1 m2 x3 1 0 w2 (f1.tr f2 (RS_sub rfl)) (s1.fx f2 rfl) a (by rw [e2]; omega) (by decide) (by decide) (by omega)⟩
      · have t11 := w1.at (a := 187) (k := 1) rfl
        refine g_X12_quick_46 ⟨fun _ => ih.2.2 m1 x3 x4 w1 f1 s1 a b (by omega), fun q => ⟨fun _ => ih.2.2 m1 x3 x4 w1 f1 s1 a b (by omega), fun _ => ?_⟩⟩
        have q' := z_nle q
        have t5 := ti_addc (x := x5) (y := 1) (c := 1) rfl (by omega)
        refine (s_X12_power w1 (by omega) (by omega)).to ?_
        rintro _ m2 ⟨w2, f2, v, rfl⟩
        have e2 := f2.at (a := 187) (k := 43) (by decide)
        have s2 := s1.fx f2 rfl
        have f2' := f1.tr f2 (RS_sub rfl)
        exact ⟨v, rfl, fun _ => ih.2.1 m2 x3 0 (x5 + 1) w2 f2' s2 a (by rw [e2]; omega) (by omega) (by omega) (by omega), fun _ => ih.2.1 m2 x3 1 (x5 + 1) w2 f2' s2 a (by rw [e2]; omega) (by omega) (by omega) (by omega)⟩
      · have t3 := ti_addc (x := x3) (y := 1) (c := 1) rfl (by omega)
        exact g_X12_quick_83 ⟨fun _ => ih.1 m1 (-1) (x3 + 1) w1 f1 s1 (Or.inl zn1) (by omega) (by omega) (by omega), fun _ => ih.1 m1 x3 (x3 + 1) w1 f1 s1 (Or.inr ⟨a, b⟩) (by omega) (by omega) (by omega)⟩
  refine v_X12_quick ((findStates_ok w0).to ?_)
  rintro _ m4 ⟨w4, f4, s4, g4, v4, rfl, -⟩
  have f4' := f0.tr f4 (RS_sub rfl)
  exact ⟨v4, rfl, fun _ => (L 100000).1 m4 (-1) 0 w4 f4' s4 (Or.inl zn1) (by decide) (by decide) (by rw [z0]; decide), fun _ => ⟨w4, f4', _, rfl⟩⟩
end TQ
