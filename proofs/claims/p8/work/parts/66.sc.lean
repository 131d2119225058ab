section
/-! SEARCHES OF THE MODEL LEAVE ITS LEAGUE AS IT IS -/
def ZB (n : Nat) (g : GS) : Prop := ∀ k, 4 * n ≤ k → k < 32 → g.1 k = 0
section RSA
variable {ad : Nat → Nat} {m : Wm} {g : GS} {sd : Nat}
theorem HM.z (h : HM sd m g) {x : Nat} (hz : 4 * sd ≤ x) : HM sd (uI m 188 x 0) g := by
  obtain ⟨h1, h2, h3, h4, h5⟩ := h
  exact ⟨fun k hk => (u_ne (by omega)).trans (h1 k hk), h2, h3, h4, h5⟩
theorem r_clear {d : Nat} (w : WT m) (hm : HM sd m g) (hs : m.1 187 1 = nI sd) (hs8 : sd ≤ 8) : Ct ad μX12_clearStates (d + 1) [.ref (ad 187)] m (fun r m' => WT m' ∧ Fx (RS [24, 34, 35]) m m' ∧ r = none ∧ ST m' ∧ (m'.1 187 43).toInt = 0 ∧ HM sd m' g ∧ HL sd 204 0 m' g) := by
  have z0 : (0 : Int32).toInt = 0 := rfl
  have L2 : ∀ n x (m1 : Wm), x + n = 32 → 4 * sd ≤ x → WT m1 → Fx (RS [24, 34, 35]) m m1 → ST m1 → (m1.1 187 43).toInt = 0 → HM sd m1 g → AW ad E0 μX12_clearStates (d + 1) (fun r m' => WT m' ∧ Fx (RS [24, 34, 35]) m m' ∧ r = none ∧ ST m' ∧ (m'.1 187 43).toInt = 0 ∧ HM sd m' g ∧ HL sd 204 0 m' g) 34 [(0, .ref (ad 187)), (1, .int (nI x))] [] m1 := by
    intro n
    induction n with
    | zero =>
      intro x m1 hx hxs w1 f1 s1 e1 hm1
      obtain rfl : x = 32 := by omega
      refine g_X12_clearStates_34 ⟨fun _ => (layH (x := 0) (na := 57) (reg := 34) rfl (by decide) (by decide) (fun _ => rfl) (fun _ => rfl) w1 hm1 hs8 (by decide)).to ?_, fun c => absurd (by decide) c⟩
      rintro _ m2 ⟨rfl, w2, f2, hq, -, -⟩
      refine ⟨rfl, w2, f1.tr f2 (RS_sub rfl), rfl, s1.fx f2 rfl, ?_, hm1.fx f2 rfl rfl, hq⟩
      rw [f2.at (a := 187) (k := 43) (by decide)]
      exact e1
    | succ n ih =>
      intro x m1 hx hxs w1 f1 s1 e1 hm1
      refine g_X12_clearStates_34 ⟨fun c => absurd ((le_l 32 32 rfl (by omega) (by omega)).mp c) (by omega), fun _ => ⟨nat_in (by omega) (by decide), ?_⟩⟩
      rw [nI_1]
      rw [nI_clamp (by omega)]
      refine ih (x + 1) _ (by omega) (by omega) (w1.n rfl) (f1.i rfl) ?_ e1 (hm1.z hxs)
      exact s1.fx (S := [24]) ((Fx.rf (m := m1)).i rfl) rfl
  have L1 : ∀ n x (m1 : Wm), x + n = 8192 → WT m1 → Fx (RS [24, 34, 35]) m m1 → (∀ k, k < x → m1.1 210 k = 0) → HM sd m1 g → AW ad E0 μX12_clearStates (d + 1) (fun r m' => WT m' ∧ Fx (RS [24, 34, 35]) m m' ∧ r = none ∧ ST m' ∧ (m'.1 187 43).toInt = 0 ∧ HM sd m' g ∧ HL sd 204 0 m' g) 2 [(0, .ref (ad 187)), (1, .int (nI x))] [] m1 := by
    intro n
    induction n with
    | zero =>
      intro x m1 hx w1 f1 h hm1
      obtain rfl : x = 8192 := by omega
      refine g_X12_clearStates_2 ⟨fun _ => ?_, fun c => absurd (by decide) c⟩
      have es : m1.1 187 1 = nI sd := (f1.at (nRS (ρ := 23) rfl rfl)).trans hs
      show AW ad E0 μX12_clearStates (d + 1) _ 34 [(0, .ref (ad 187)), (1, .int ((4 : Int32) * (m1.1 187 1)))] [] (uI m1 187 43 0)
      rw [es, l_mul 4 4 rfl]
      refine L2 (32 - 4 * sd) _ _ (by omega) (Nat.le_refl _) (w1.t rfl (by decide) (by decide)) (f1.i rfl) ⟨?_, fun k hk => ?_, fun k hk => absurd (show (k : Int) < 0 from hk) (by omega)⟩ rfl hm1
      · show ((czf (m1.1 210) 8192 : Nat) : Int) ≤ 0
        rw [czf_zero 8192 h]
        decide
      · show (m1.1 210 k).toInt ≤ 0
        rw [h k hk]
        decide
    | succ n ih =>
      intro x m1 hx w1 f1 h hm1
      refine g_X12_clearStates_2 ⟨fun c => absurd ((le_l 8192 8192 rfl (by omega) (by omega)).mp c) (by omega), fun _ => ⟨nat_in (by omega) (by decide), ?_⟩⟩
      rw [nI_1]
      refine ih (x + 1) _ (by omega) (w1.t rfl (by decide) (by decide)) (f1.i rfl) (fun k hk => ?_) hm1
      show (if 210 = 210 ∧ k = (nI x).toNatClampNeg then (0 : Int32) else m1.1 210 k) = 0
      rw [nI_clamp (by omega)]
      by_cases hkx : k = x
      · rw [if_pos ⟨rfl, hkx⟩]
      · rw [if_neg (fun q => hkx q.2)]
        exact h k (by omega)
  exact v_X12_clearStates (L1 8192 0 m rfl w Fx.rf (fun k hk => absurd hk (by omega)) hm)
theorem r_findRest {d : Nat} (w : WT m) (hm : HM sd m g) (hs : m.1 187 1 = nI sd) (hs8 : sd ≤ 8) : Ct ad μX12_findRest (d + 177) [.ref (ad 187)] m (fun r m' => WT m' ∧ Fx (RS [22, 24, 28, 34, 35, 49]) m m' ∧ ST m' ∧ (HM sd m' g ∧ HL sd 204 0 m' g) ∧ 1 ≤ (m'.1 187 43).toInt ∧ ∃ v : Int32, r = some (.int v) ∧ (0 : Int) ≤ v.toInt ∧ v.toInt ≤ 1 ∧ (v.toInt = 0 ∨ (1 ≤ (m'.1 187 46).toInt ∧ (m'.1 187 45).toInt + (m'.1 187 46).toInt ≤ 2000))) := by
  have z0 : (0 : Int32).toInt = 0 := rfl
  have z1 : (1 : Int32).toInt = 1 := rfl
  have zn1 : (-1 : Int32).toInt = -1 := rfl
  have L : ∀ n : Nat, ∀ (m1 : Wm) (x1 : Int32) (t : Nat), t + n = 2001 → 1 ≤ t → WT m1 → Fx (RS [22, 24, 28, 34, 35, 49]) m m1 → ST m1 → HL sd 204 0 m1 g → 1 ≤ (m1.1 187 43).toInt → (m1.1 187 43).toInt ≤ (t : Int) → 0 ≤ x1.toInt → x1.toInt ≤ 1 → (x1.toInt = 0 ∨ (1 ≤ (m1.1 187 46).toInt ∧ (m1.1 187 45).toInt + (m1.1 187 46).toInt ≤ 2000)) →
      AW ad E0 μX12_findRest (d + 177) (fun r m' => WT m' ∧ Fx (RS [22, 24, 28, 34, 35, 49]) m m' ∧ ST m' ∧ (HM sd m' g ∧ HL sd 204 0 m' g) ∧ 1 ≤ (m'.1 187 43).toInt ∧ ∃ v : Int32, r = some (.int v) ∧ (0 : Int) ≤ v.toInt ∧ v.toInt ≤ 1 ∧ (v.toInt = 0 ∨ (1 ≤ (m'.1 187 46).toInt ∧ (m'.1 187 45).toInt + (m'.1 187 46).toInt ≤ 2000))) 18 [(0, .ref (ad 187)), (1, .int x1), (2, .int (nI t))] [] m1 := by
    intro n
    induction n with
    | zero =>
      intro m1 x1 t ht h1 w1 f1 s1 hq a1 a2 a3 a4 a5
      refine g_X12_findRest_18 ⟨fun _ => ?_, fun c => absurd ((lt_l 2000 2000 rfl (by omega) (by omega)).mpr (by omega)) c⟩
      refine g_X12_findRest_90 ((bringH (x := 0) (na := 57) rfl (by decide) (by decide) w1 hq (by decide)).to ?_)
      rintro _ m2 ⟨rfl, w2, f2, H2⟩
      have e1 := f2.at (a := 187) (k := 43) (by decide)
      have e2 := f2.at (a := 187) (k := 45) (by decide)
      have e3 := f2.at (a := 187) (k := 46) (by decide)
      exact ⟨rfl, bz_of (by omega) (by omega), w2, f1.tr f2 (RS_sub rfl), s1.fx f2 rfl, ⟨H2, hq.fx f2 (fun _ => rfl) rfl⟩, by rw [e1]; exact a1, x1, rfl, a3, a4, by rw [e2, e3]; exact a5⟩
    | succ n ih =>
      intro m1 x1 t ht h1 w1 f1 s1 hq a1 a2 a3 a4 a5
      refine g_X12_findRest_18 ⟨fun c => absurd ((lt_l 2000 2000 rfl (by omega) (by omega)).mp c) (by omega), fun _ => ⟨fun c => ?_, fun c => ?_⟩⟩
      · refine g_X12_findRest_90 ((bringH (x := 0) (na := 57) rfl (by decide) (by decide) w1 hq (by decide)).to ?_)
        rintro _ m2 ⟨rfl, w2, f2, H2⟩
        have e1 := f2.at (a := 187) (k := 43) (by decide)
        have e2 := f2.at (a := 187) (k := 45) (by decide)
        have e3 := f2.at (a := 187) (k := 46) (by decide)
        exact ⟨rfl, bz_of (by omega) (by omega), w2, f1.tr f2 (RS_sub rfl), s1.fx f2 rfl, ⟨H2, hq.fx f2 (fun _ => rfl) rfl⟩, by rw [e1]; exact a1, x1, rfl, a3, a4, by rw [e2, e3]; exact a5⟩
      · refine (s_X12_goTurn w1).to ?_
        rintro _ m2 ⟨w2, f2, rfl⟩
        have e1 := f2.at (a := 187) (k := 43) (by decide)
        have s2 := s1.fx f2 rfl
        refine ⟨rfl, (s_X12_stateNow w2 s2 (Or.inl zn1)).to ?_⟩
        rintro _ m3 ⟨w3, f3, s3, b1, b2, v, rfl, b3, b4, b5, b6⟩
        rw [e1] at b1 b2 b5
        have hv : v.toInt ≠ -1 := fun q => by have := b5 q; omega
        have f3' : Fx (RS [22, 24, 28, 34, 35, 49]) m m3 := (f1.tr f2 (RS_sub rfl)).tr f3 (RS_sub rfl)
        have hq3 := (hq.fx f2 (fun _ => rfl) rfl).fx f3 (fun _ => rfl) rfl
        refine ⟨v, rfl, fun c3 => ?_, fun c3 => ?_⟩
        · refine g_X12_findRest_62 ⟨fun q => absurd rfl q, fun _ => ?_⟩
          rw [nI_1]
          exact ih m3 0 (t + 1) (by omega) (by omega) w3 f3' s3 hq3 (by omega) (by omega) (by decide) (by decide) (Or.inl rfl)
        · have c4 : (m3.1 187 43).toInt = (m2.1 187 43).toInt := congrArg _ c3
          rw [e1] at c4
          refine g_X12_findRest_62 ⟨fun _ => ?_, fun q => absurd q (by decide)⟩
          have tt : (nI t).toInt = (t : Int) := nI_toInt (by omega)
          have q1 := ti_sub (x := nI t) (y := v) (by omega)
          rw [nI_1]
          refine ih _ 1 (t + 1) (by omega) (by omega) ((w3.t rfl (by omega) (by omega)).t rfl (by rw [q1]; omega) (by rw [q1]; omega)) ((f3'.i rfl).i rfl) s3 (hq3.k (fun _ _ _ => rfl)) (by show 1 ≤ (m3.1 187 43).toInt; omega) (by show (m3.1 187 43).toInt ≤ _; omega) (by decide) (by decide) (Or.inr ?_)
          show 1 ≤ (nI t - v).toInt ∧ v.toInt + (nI t - v).toInt ≤ 2000
          rw [q1]
          omega
  refine v_X12_findRest ((r_clear (d := d + 175) w hm hs hs8).to ?_)
  rintro _ m1 ⟨w1, f1, rfl, s1, e1, hm1, hq1⟩
  refine ⟨rfl, (s_X12_stateNow w1 s1 (Or.inl zn1)).to ?_⟩
  rintro _ m2 ⟨w2, f2, s2, b1, b2, v, rfl, b3, b4, b5, b6⟩
  refine ⟨v, rfl, ?_⟩
  exact L 2000 m2 0 1 (by decide) (by decide) w2 (((Fx.rf (S := RS [22, 24, 28, 34, 35, 49])).tr f1 (RS_sub rfl)).tr f2 (RS_sub rfl)) s2 (hq1.fx f2 (fun _ => rfl) rfl) (by omega) (by omega) (by decide) (by decide) (Or.inl rfl)
def rsQ (sd : Nat) (m : Wm) (g : GS) (r : Option Value) (m' : Wm) : Prop := WT m' ∧ Fx (RS [22, 24, 28, 34, 35, 49]) m m' ∧ ST m' ∧ (HM sd m' g ∧ HL sd 204 0 m' g) ∧ 1 ≤ (m'.1 187 43).toInt ∧ ∃ v : Int32, r = some (.int v) ∧ (0 : Int) ≤ v.toInt ∧ v.toInt ≤ 1
def rsI (sd : Nat) (m : Wm) (g : GS) (m1 : Wm) (x2 x3 : Int32) : Prop := WT m1 ∧ Fx (RS [22, 24, 28, 34, 35, 49]) m m1 ∧ ST m1 ∧ 1 ≤ (m1.1 187 43).toInt ∧ 0 ≤ x2.toInt ∧ x2.toInt ≤ 1 ∧ 0 ≤ x3.toInt ∧ HL sd 204 0 m1 g
theorem rs_loop {d : Nat} {x1 : Int32} : ∀ n : Nat,
    (∀ (m1 : Wm) (x2 x3 : Int32), rsI sd m g m1 x2 x3 → x3.toInt ≤ 3000 → (3000 - x3.toInt) * 1000 + 900 < (n : Int) → AW ad E0 μX12_findStates (d + 177) (rsQ sd m g) 18 [(0, .ref (ad 187)), (1, .int x1), (2, .int x2), (3, .int x3)] [] m1) ∧
    (∀ (m1 : Wm) (x2 x3 x4 : Int32), rsI sd m g m1 x2 x3 → x3.toInt < (m1.1 187 43).toInt → 0 ≤ x4.toInt → x4.toInt ≤ 3 → (3000 - x3.toInt) * 1000 + (3 - x4.toInt) * 200 + 190 < (n : Int) → AW ad E0 μX12_findStates (d + 177) (rsQ sd m g) 46 [(0, .ref (ad 187)), (1, .int x1), (2, .int x2), (3, .int x3), (4, .int x4)] [] m1) ∧
    (∀ (m1 : Wm) (x2 x3 x4 x5 : Int32), rsI sd m g m1 x2 x3 → x3.toInt < (m1.1 187 43).toInt → 0 ≤ x4.toInt → x4.toInt ≤ 2 → 0 ≤ x5.toInt → x5.toInt ≤ 8 → (3000 - x3.toInt) * 1000 + (3 - x4.toInt) * 200 + (8 - x5.toInt) * 20 + 19 < (n : Int) → AW ad E0 μX12_findStates (d + 177) (rsQ sd m g) 55 [(0, .ref (ad 187)), (1, .int x1), (2, .int x2), (3, .int x3), (4, .int x4), (5, .int x5)] [] m1) ∧
    (∀ (m1 : Wm) (x2 x3 x4 x5 x6 : Int32), rsI sd m g m1 x2 x3 → x3.toInt < (m1.1 187 43).toInt → 0 ≤ x4.toInt → x4.toInt ≤ 2 → 0 ≤ x5.toInt → x5.toInt ≤ 7 → 0 ≤ x6.toInt → x6.toInt ≤ 9 → (3000 - x3.toInt) * 1000 + (3 - x4.toInt) * 200 + (8 - x5.toInt) * 20 + (9 - x6.toInt) < (n : Int) → AW ad E0 μX12_findStates (d + 177) (rsQ sd m g) 70 [(0, .ref (ad 187)), (1, .int x1), (2, .int x2), (3, .int x3), (4, .int x4), (5, .int x5), (6, .int x6)] [] m1) := by
  intro n
  have z0 : (0 : Int32).toInt = 0 := rfl
  have z1 : (1 : Int32).toInt = 1 := rfl
  have zn1 : (-1 : Int32).toInt = -1 := rfl
  induction n with
  | zero =>
    refine ⟨fun m1 x2 x3 I a b => ?_, fun m1 x2 x3 x4 I a b c e => ?_, fun m1 x2 x3 x4 x5 I a b c e f g => ?_, fun m1 x2 x3 x4 x5 x6 I a b c e f g h i => ?_⟩
    all_goals have t43 := I.1.at (a := 187) (k := 43) rfl
    all_goals exfalso
    all_goals omega
  | succ n ih =>
    have fin : ∀ (m1 : Wm) (x2 x3 : Int32), rsI sd m g m1 x2 x3 → AW ad E0 μX12_findStates (d + 177) (rsQ sd m g) 154 [(0, .ref (ad 187)), (2, .int x2)] [] m1 := by
      intro m1 x2 x3 ⟨w1, f1, s1, a1, a2, a3, a4, hq⟩
      refine g_X12_findStates_154 ((bringH (x := 0) (na := 57) rfl (by decide) (by decide) w1 hq (by decide)).to ?_)
      rintro _ m2 ⟨rfl, w2, f2, H2⟩
      have e1 := f2.at (a := 187) (k := 43) (by decide)
      exact ⟨rfl, bz_of (by omega) (by omega), w2, f1.tr f2 (RS_sub rfl), s1.fx f2 rfl, ⟨H2, hq.fx f2 (fun _ => rfl) rfl⟩, by rw [e1]; exact a1, x2, rfl, a2, a3⟩
    refine ⟨fun m1 x2 x3 I a b => ?_, fun m1 x2 x3 x4 I a b c e => ?_, fun m1 x2 x3 x4 x5 I a b c e f g => ?_, fun m1 x2 x3 x4 x5 x6 I a b c e f g h i => ?_⟩
    · have I' := I
      obtain ⟨w1, f1, s1, a1, a2, a3, a4, hq⟩ := I
      have t43 := w1.at (a := 187) (k := 43) rfl
      refine g_X12_findStates_18 ⟨fun _ => fin _ _ _ I', fun c => ⟨fun _ => fin _ _ _ I', fun _ => ?_⟩⟩
      have c' := z_nle c
      have t1 := ti_addc (x := x3) (y := 1) (c := 1) rfl (by omega)
      refine ⟨vpi (by omega) (by omega), fun _ => ih.2.1 _ _ _ _ I' (by omega) (by decide) (by decide) (by omega), fun _ => ih.1 _ _ _ ⟨w1, f1, s1, a1, a2, a3, by omega, hq⟩ (by omega) (by omega)⟩
    · have I' := I
      obtain ⟨w1, f1, s1, a1, a2, a3, a4, hq⟩ := I
      have t43 := w1.at (a := 187) (k := 43) rfl
      have t1 := ti_addc (x := x3) (y := 1) (c := 1) rfl (by omega)
      refine g_X12_findStates_46 ⟨fun _ => ih.1 _ _ _ ⟨w1, f1, s1, a1, a2, a3, by omega, hq⟩ (by omega) (by omega), fun q => ?_⟩
      have q' := y_nlel (n := 3) rfl q
      exact ih.2.2.1 _ _ _ _ _ I' a b (by omega) (by decide) (by decide) (by omega)
    · have I' := I
      obtain ⟨w1, f1, s1, a1, a2, a3, a4, hq⟩ := I
      have t43 := w1.at (a := 187) (k := 43) rfl
      have t11 := w1.at (a := 187) (k := 1) rfl
      have t1 := ti_addc (x := x4) (y := 1) (c := 1) rfl (by omega)
      have t2 := ti_addc (x := x5) (y := 1) (c := 1) rfl (by omega)
      refine g_X12_findStates_55 ⟨fun _ => ih.2.1 _ _ _ _ I' a (by omega) (by omega) (by omega), fun q => ?_⟩
      have q' := z_nle q
      exact ih.2.2.2 _ _ _ _ _ _ I' a b c e (by omega) (by omega) (by omega) (by omega)
    · have I' := I
      obtain ⟨w1, f1, s1, a1, a2, a3, a4, hq⟩ := I
      have t43 := w1.at (a := 187) (k := 43) rfl
      have t11 := w1.at (a := 187) (k := 1) rfl
      have t2 := ti_addc (x := x5) (y := 1) (c := 1) rfl (by omega)
      have nxt := ih.2.2.1 m1 x2 x3 x4 (x5 + 1) I' a b c (by omega) (by omega) (by omega)
      refine g_X12_findStates_70 ⟨fun _ => nxt, fun q => ⟨fun _ => nxt, fun _ => ?_⟩⟩
      have q' := z_nle q
      have t3 := ti_addc (x := x6) (y := 1) (c := 1) rfl (by omega)
      refine (s_X12_load w1 (by omega) (by omega)).to ?_
      rintro _ m2 ⟨w2, f2, rfl⟩
      refine ⟨rfl, (s_X12_goQuiet w2 (by omega) (by omega) (by omega) (by omega)).to ?_⟩
      rintro _ m3 ⟨w3, f3, rfl⟩
      have f3' := (f1.tr f2 (RS_sub rfl)).tr f3 (RS_sub rfl)
      have s3 := (s1.fx f2 rfl).fx f3 rfl
      have e3 : (m3.1 187 43).toInt = (m1.1 187 43).toInt := congrArg _ ((f3.at (a := 187) (k := 43) (by decide)).trans (f2.at (a := 187) (k := 43) (by decide)))
      refine ⟨rfl, (s_X12_stateNow w3 s3 (Or.inr ⟨by omega, by omega⟩)).to ?_⟩
      rintro _ m4 ⟨w4, f4, s4, b1, b2, v, rfl, -⟩
      have f4' := f3'.tr f4 (RS_sub rfl)
      have hq4 := ((hq.fx f2 (fun _ => rfl) rfl).fx f3 (fun _ => rfl) rfl).fx f4 (fun _ => rfl) rfl
      refine ⟨v, rfl, fun _ => ?_, fun _ => ?_⟩
      · exact ih.2.2.2 _ _ _ _ _ _ ⟨w4, f4', s4, by omega, by decide, by decide, a4, hq4⟩ (by omega) b c e f (by omega) (by omega) (by omega)
      · exact ih.2.2.2 _ _ _ _ _ _ ⟨w4, f4', s4, by omega, by decide, by decide, a4, hq4⟩ (by omega) b c e f (by omega) (by omega) (by omega)
theorem r_findStates {d : Nat} {x1 : Int32} (w : WT m) (hm : HM sd m g) (hs : m.1 187 1 = nI sd) (hs8 : sd ≤ 8) : Ct ad μX12_findStates (d + 177) [.ref (ad 187), .int x1] m (rsQ sd m g) := by
  have z0 : (0 : Int32).toInt = 0 := rfl
  have zn1 : (-1 : Int32).toInt = -1 := rfl
  refine v_X12_findStates ((r_clear (d := d + 175) w hm hs hs8).to ?_)
  rintro _ m1 ⟨w1, f1, rfl, s1, e1, hm1, hq1⟩
  refine ⟨rfl, (s_X12_stateNow w1 s1 (Or.inl zn1)).to ?_⟩
  rintro _ m2 ⟨w2, f2, s2, b1, b2, v, rfl, b3, b4, b5, b6⟩
  refine ⟨v, rfl, ?_⟩
  exact (rs_loop 4000000).1 m2 1 0 ⟨w2, ((Fx.rf (S := RS [22, 24, 28, 34, 35, 49])).tr f1 (RS_sub rfl)).tr f2 (RS_sub rfl), s2, by omega, by decide, by decide, by decide, hq1.fx f2 (fun _ => rfl) rfl⟩ (by decide) (by rw [z0]; decide)
end RSA
/-! SEARCHES AND SEASONS OF THE MODEL: the league is afterwards as it was -/
def RP (S : List Nat) (sd : Nat) (m : Wm) (g : GS) (r : Option Value) (m' : Wm) : Prop := WT m' ∧ Fx (RS S) m m' ∧ HM sd m' g ∧ ∃ v : Int32, r = some (.int v)
section RSB
variable {ad : Nat → Nat} {m : Wm} {g : GS} {sd : Nat}
theorem isSideH {d : Nat} {m : Wm} {x1 : Int32} (w : WT m) : Ct ad μX12_isSide (d + 1) [.ref (ad 187), .int x1] m (fun r m' => m' = m ∧ ∃ v : Int32, r = some (.int v) ∧ (v = 0 ∨ (0 ≤ x1.toInt ∧ x1.toInt < (m.1 187 1).toInt))) := by
  refine (isSide_ok).to ?_
  rintro _ m' ⟨eq, rfl⟩
  have t := w.at (a := 187) (k := 1) rfl
  refine ⟨eq, _, rfl, ?_⟩
  by_cases c : 0 ≤ x1 ∧ x1 ≤ m.1 187 1 - 1
  · have c1 := y_lel (n := 0) rfl c.1
    have c2 := z_le c.2
    have := ti_subc (x := m.1 187 1) (y := (1 : Int32)) (c := 1) rfl (by omega)
    exact Or.inr ⟨by omega, by omega⟩
  · exact Or.inl (if_neg c)
theorem isArtH {d : Nat} {m : Wm} {x1 : Int32} (w : WT m) : Ct ad μX12_isArt (d + 1) [.ref (ad 187), .int x1] m (fun r m' => m' = m ∧ ∃ v : Int32, r = some (.int v) ∧ (v = 0 ∨ (0 ≤ x1.toInt ∧ x1.toInt < (m.1 187 0).toInt))) := by
  refine (isArt_ok).to ?_
  rintro _ m' ⟨eq, rfl⟩
  have t := w.at (a := 187) (k := 0) rfl
  refine ⟨eq, _, rfl, ?_⟩
  by_cases c : 0 ≤ x1 ∧ x1 ≤ m.1 187 0 - 1
  · have c1 := y_lel (n := 0) rfl c.1
    have c2 := z_le c.2
    have := ti_subc (x := m.1 187 0) (y := (1 : Int32)) (c := 1) rfl (by omega)
    exact Or.inr ⟨by omega, by omega⟩
  · exact Or.inl (if_neg c)
theorem inH {d : Nat} {m : Wm} {x lo hi : Int32} {y2 y4 : Int64} (h2 : y2 = lo.toInt64) (h4 : y4 = hi.toInt64) : Ct ad μX12_in d [.long x.toInt64, .long y2, .long y4] m (fun r m' => m' = m ∧ ∃ v : Int32, r = some (.int v) ∧ (v = 0 ∨ (lo.toInt ≤ x.toInt ∧ x.toInt ≤ hi.toInt))) := by
  refine (in_i h2 h4).to ?_
  rintro _ m' ⟨eq, rfl⟩
  refine ⟨eq, _, rfl, ?_⟩
  by_cases c : lo ≤ x ∧ x ≤ hi
  · exact Or.inr ⟨z_le c.1, z_le c.2⟩
  · exact Or.inl (if_neg c)

theorem r_rest {d : Nat} (w : WT m) (hm : HM sd m g) (hs : m.1 187 1 = nI sd) (hs8 : sd ≤ 8) : Ct ad μX12_rest (d + 178) [.ref (ad 187)] m (RP [20, 22, 24, 26, 28, 34, 35, 49] sd m g) := by
  have z0 : (0 : Int32).toInt = 0 := rfl
  have w0 : WT (uI m 187 17 0) := w.n rfl
  have f0 : Fx (RS [20, 22, 24, 26, 28, 34, 35, 49]) m (uI m 187 17 0) := Fx.rf.i rfl
  have hm0 : HM sd (uI m 187 17 0) g := hm
  have hs0 : (uI m 187 17 0).1 187 1 = nI sd := hs
  have ts : (nI sd).toInt = sd := nI_toInt (by omega)
  refine v_X12_rest (d := d + 177) ⟨fun _ => (r_findRest (d := d) w0 hm0 hs0 hs8).to ?_, fun _ => ⟨w0, f0, hm0, _, rfl⟩⟩
  rintro _ m1 ⟨w1, f1, s1, ⟨hm1, hq⟩, h1, v, rfl, a1, a2, a3⟩
  have f1' := f0.tr f1 (RS_sub rfl)
  refine ⟨v, rfl, fun _ => ?_, fun _ => ⟨w1, f1', hm1, _, rfl⟩⟩
  have t45 := w1.at (a := 187) (k := 45) rfl
  refine (s_X12_load (d := d + 177) w1 (by omega) (by omega)).to ?_
  rintro _ m2 ⟨w2, f2, rfl⟩
  refine ⟨rfl, (s_X12_sumOfAll (d := d + 176) w2).to ?_⟩
  rintro _ m3 ⟨w3, f3, v3, rfl⟩
  have hq3 := (hq.fx f2 (fun _ => rfl) rfl).fx f3 (fun _ => rfl) rfl
  refine ⟨v3, rfl, (bringH (x := 0) (na := 57) rfl (by decide) (by decide) w3 hq3 (by decide)).to ?_⟩
  rintro _ m4 ⟨rfl, w4, f4, hm4⟩
  have w5 : WT (uI m4 187 16 (0 : Int32)) := w4.t rfl (by decide) (by decide)
  have f5 : Fx (RS [20, 22, 24, 26, 28, 34, 35, 49]) m (uI m4 187 16 (0 : Int32)) := (((f1'.tr f2 (RS_sub rfl)).tr f3 (RS_sub rfl)).tr f4 (RS_sub rfl)).i rfl
  have hm5 : HM sd (uI m4 187 16 (0 : Int32)) g := hm4
  refine ⟨rfl, (s_X12_tell w5 (by rw [u_eq]; decide)).to ?_⟩
  rintro _ m6 ⟨w6, f6, rfl, p6⟩
  have p6' : (m6.1 187 16).toInt = 0 + 1 := p6
  refine ⟨rfl, (s_X12_tell w6 (by omega)).to ?_⟩
  rintro _ m7 ⟨w7, f7, rfl, -⟩
  exact ⟨rfl, w7, (f5.tr f6 (RS_sub rfl)).tr f7 (RS_sub rfl), (hm5.fx f6 rfl rfl).fx f7 rfl rfl, _, rfl⟩
theorem r_soon {d : Nat} {x1 x2 x3 : Int32} (w : WT m) (hm : HM sd m g) (hs : m.1 187 1 = nI sd) (hs8 : sd ≤ 8) : Ct ad μX12_soon (d + 178) [.ref (ad 187), .int x1, .int x2, .int x3] m (RP [20, 22, 24, 26, 28, 34, 35, 49] sd m g) := by
  have z0 : (0 : Int32).toInt = 0 := rfl
  have w0 : WT (uI m 187 17 0) := w.n rfl
  have f0 : Fx (RS [20, 22, 24, 26, 28, 34, 35, 49]) m (uI m 187 17 0) := Fx.rf.i rfl
  have hm0 : HM sd (uI m 187 17 0) g := hm
  have hs0 : (uI m 187 17 0).1 187 1 = nI sd := hs
  have ts : (nI sd).toInt = sd := nI_toInt (by omega)
  have L : ∀ n : Nat, ∀ (m1 : Wm) (x4 : Int32) (k : Nat), k + n = 3001 → WT m1 → Fx (RS [20, 22, 24, 26, 28, 34, 35, 49]) m m1 → HM sd m1 g → 0 ≤ x1.toInt → x1.toInt ≤ 7 → 0 ≤ x2.toInt → x2.toInt ≤ 3 → AW ad E0 μX12_soon (d + 178) (RP [20, 22, 24, 26, 28, 34, 35, 49] sd m g) 51 [(0, .ref (ad 187)), (1, .int x1), (2, .int x2), (3, .int x3), (4, .int x4), (5, .int (nI k))] [] m1 := by
    intro n
    induction n with
    | zero =>
      intro m1 x4 k hk w1 f1 hm1 a1 a2 a3 a4
      have t43 := w1.at (a := 187) (k := 43) rfl
      have tk : (nI k).toInt = (k : Int) := nI_toInt (by omega)
      exact g_X12_soon_51 (d := d + 177) ⟨fun _ => ⟨fun _ => ⟨w1, f1, hm1, _, rfl⟩, fun _ => ⟨w1, f1, hm1, _, rfl⟩⟩, fun c => absurd (z_nle c) (by omega)⟩
    | succ n ih =>
      intro m1 x4 k hk w1 f1 hm1 a1 a2 a3 a4
      have t43 := w1.at (a := 187) (k := 43) rfl
      have tk : (nI k).toInt = (k : Int) := nI_toInt (by omega)
      refine g_X12_soon_51 (d := d + 177) ⟨fun _ => ⟨fun _ => ⟨w1, f1, hm1, _, rfl⟩, fun _ => ⟨w1, f1, hm1, _, rfl⟩⟩, fun c => ?_⟩
      have c' := z_nle c
      refine (s_X12_skillIn w1 (by omega) (by omega) a1 a2 a3 a4).to ?_
      rintro _ m2 ⟨w2, f2, v, rfl⟩
      have f2' := f1.tr f2 (RS_sub rfl)
      have hm2 := hm1.fx f2 rfl rfl
      refine ⟨v, rfl, fun _ => ?_, fun _ => ⟨w2, f2', hm2, _, rfl⟩⟩
      rw [nI_1]
      exact ih m2 x4 (k + 1) (by omega) w2 f2' hm2 a1 a2 a3 a4
  refine v_X12_soon (d := d + 177) ((isSideH (d := d + 176) w0).to ?_)
  rintro _ m' ⟨eq, v1, rfl, q1⟩
  obtain rfl := eq.symm
  refine ⟨v1, rfl, fun _ => ⟨w0, f0, hm0, _, rfl⟩, fun c1 => (isArtH (d := d + 176) w0).to ?_⟩
  rintro _ m' ⟨eq, v2, rfl, q2⟩
  obtain rfl := eq.symm
  refine ⟨v2, rfl, fun _ => ⟨w0, f0, hm0, _, rfl⟩, fun c2 => (inH (lo := 0) (hi := 7) rfl rfl).to ?_⟩
  rintro _ m' ⟨eq, v3, rfl, q3⟩
  obtain rfl := eq.symm
  refine ⟨v3, rfl, fun _ => ⟨w0, f0, hm0, _, rfl⟩, fun c3 => ⟨fun _ => (r_findRest (d := d) w0 hm0 hs0 hs8).to ?_, fun _ => ⟨w0, f0, hm0, _, rfl⟩⟩⟩
  rintro _ m1 ⟨w1, f1, s1, ⟨hm1, hq⟩, h1, v, rfl, a1, a2, a3⟩
  have u1 := q1.resolve_left c1
  have u2 := q2.resolve_left c2
  have t0 := w0.at (a := 187) (k := 1) rfl
  have t1 := w0.at (a := 187) (k := 0) rfl
  exact ⟨v, rfl, L 3001 m1 v 0 (by decide) w1 (f0.tr f1 (RS_sub rfl)) hm1 (by omega) (by omega) (by omega) (by omega)⟩
theorem r_mean {d : Nat} {x1 x2 : Int32} (w : WT m) (hm : HM sd m g) (hs : m.1 187 1 = nI sd) (hs8 : sd ≤ 8) : Ct ad μX12_mean (d + 178) [.ref (ad 187), .int x1, .int x2] m (RP [20, 22, 24, 26, 28, 34, 35, 49] sd m g) := by
  have z0 : (0 : Int32).toInt = 0 := rfl
  have w0 : WT (uI m 187 17 0) := w.n rfl
  have f0 : Fx (RS [20, 22, 24, 26, 28, 34, 35, 49]) m (uI m 187 17 0) := Fx.rf.i rfl
  have hm0 : HM sd (uI m 187 17 0) g := hm
  have hs0 : (uI m 187 17 0).1 187 1 = nI sd := hs
  have ts : (nI sd).toInt = sd := nI_toInt (by omega)
  have L : ∀ n : Nat, ∀ (m1 : Wm) (y3 : Int64) (x5 : Int32), WT m1 → Fx (RS [20, 22, 24, 26, 28, 34, 35, 49]) m m1 → HM sd m1 g → 0 ≤ x1.toInt → x1.toInt ≤ 7 → 0 ≤ x2.toInt → x2.toInt ≤ 3 → 1 ≤ (m1.1 187 46).toInt → (m1.1 187 45).toInt + (m1.1 187 46).toInt ≤ 2000 → 0 ≤ x5.toInt → x5.toInt ≤ 2000 → 2000 - x5.toInt < (n : Int) → AW ad E0 μX12_mean (d + 178) (RP [20, 22, 24, 26, 28, 34, 35, 49] sd m g) 48 [(0, .ref (ad 187)), (1, .int x1), (2, .int x2), (3, .long y3), (5, .int x5)] [] m1 := by
    intro n
    induction n with
    | zero => intros; exfalso; omega
    | succ n ih =>
      intro m1 y3 x5 w1 f1 hm1 a1 a2 a3 a4 a5 a6 a7 a8 hn
      have t45 := w1.at (a := 187) (k := 45) rfl
      have t46 := w1.at (a := 187) (k := 46) rfl
      have ta := ti_add (x := m1.1 187 45) (y := m1.1 187 46) (by omega)
      refine g_X12_mean_48 (d := d + 177) ⟨fun _ => ?_, fun c => ?_⟩
      · have w2 : WT (uI m1 187 16 (0 : Int32)) := w1.t rfl (by decide) (by decide)
        have hm2 : HM sd (uI m1 187 16 (0 : Int32)) g := hm1
        have ne : ((uI m1 187 16 (0 : Int32)).1 187 46).toInt64 ≠ 0 := fun q => by
          have e : (uI m1 187 16 (0 : Int32)).1 187 46 = m1.1 187 46 := rfl
          rw [e] at q
          have := congrArg Int64.toInt q
          rw [Int32.toInt_toInt64] at this
          have z : (0 : Int64).toInt = 0 := rfl
          omega
        refine (s_X12_tellPart (d := d + 37) w2 ne (by rw [u_eq]; decide)).to ?_
        rintro _ m3 ⟨w3, f3, rfl, -⟩
        exact ⟨rfl, w3, (f1.i rfl).tr f3 (RS_sub rfl), hm2.fx f3 rfl rfl, _, rfl⟩
      · have c' := z_nle c
        refine (s_X12_skillIn w1 (by omega) (by omega) a1 a2 a3 a4).to ?_
        rintro _ m2 ⟨w2, f2, v, rfl⟩
        have e45 : m2.1 187 45 = m1.1 187 45 := f2.at (by decide)
        have e46 : m2.1 187 46 = m1.1 187 46 := f2.at (by decide)
        have t5 := ti_addc (x := x5) (y := (1 : Int32)) (c := 1) rfl (by omega)
        exact ⟨v, rfl, ih m2 _ _ w2 (f1.tr f2 (RS_sub rfl)) (hm1.fx f2 rfl rfl) a1 a2 a3 a4 (by rw [e46]; exact a5) (by rw [e45, e46]; exact a6) (by omega) (by omega) (by omega)⟩
  refine v_X12_mean (d := d + 177) ((isSideH (d := d + 176) w0).to ?_)
  rintro _ m' ⟨eq, v1, rfl, q1⟩
  obtain rfl := eq.symm
  refine ⟨v1, rfl, fun _ => ⟨w0, f0, hm0, _, rfl⟩, fun c1 => (isArtH (d := d + 176) w0).to ?_⟩
  rintro _ m' ⟨eq, v2, rfl, q2⟩
  obtain rfl := eq.symm
  refine ⟨v2, rfl, fun _ => ⟨w0, f0, hm0, _, rfl⟩, fun c2 => ⟨fun _ => (r_findRest (d := d) w0 hm0 hs0 hs8).to ?_, fun _ => ⟨w0, f0, hm0, _, rfl⟩⟩⟩
  rintro _ m1 ⟨w1, f1, s1, ⟨hm1, hq⟩, h1, v, rfl, a1, a2, a3⟩
  have u1 := q1.resolve_left c1
  have u2 := q2.resolve_left c2
  have t0 := w0.at (a := 187) (k := 1) rfl
  have t1 := w0.at (a := 187) (k := 0) rfl
  have t45 := w1.at (a := 187) (k := 45) rfl
  refine ⟨v, rfl, fun c => ?_, fun _ => ⟨w1, f0.tr f1 (RS_sub rfl), hm1, _, rfl⟩⟩
  have c' := y_ner (n := 0) rfl c
  have b := a3.resolve_left c'
  exact L 2001 m1 0 _ w1 (f0.tr f1 (RS_sub rfl)) hm1 (by omega) (by omega) (by omega) (by omega) b.1 b.2 (by omega) (by omega) (by omega)
theorem r_best {d : Nat} {x1 x2 : Int32} (w : WT m) (hm : HM sd m g) (hs : m.1 187 1 = nI sd) (hs8 : sd ≤ 8) : Ct ad μX12_best (d + 178) [.ref (ad 187), .int x1, .int x2] m (RP [20, 22, 24, 26, 28, 34, 35, 49] sd m g) := by
  have z0 : (0 : Int32).toInt = 0 := rfl
  have w0 : WT (uI m 187 17 0) := w.n rfl
  have f0 : Fx (RS [20, 22, 24, 26, 28, 34, 35, 49]) m (uI m 187 17 0) := Fx.rf.i rfl
  have hm0 : HM sd (uI m 187 17 0) g := hm
  have hs0 : (uI m 187 17 0).1 187 1 = nI sd := hs
  have ts : (nI sd).toInt = sd := nI_toInt (by omega)
  have L : ∀ n : Nat, ∀ (m1 : Wm) (x3 x4 : Int32) (k : Nat), k + n = 3001 → WT m1 → Fx (RS [20, 22, 24, 26, 28, 34, 35, 49]) m m1 → HL sd 204 0 m1 g → 0 ≤ x1.toInt → x1.toInt ≤ 7 → 0 ≤ x3.toInt → x3.toInt ≤ 2999 → AW ad E0 μX12_best (d + 178) (RP [20, 22, 24, 26, 28, 34, 35, 49] sd m g) 46 [(0, .ref (ad 187)), (1, .int x1), (3, .int x3), (4, .int x4), (5, .int (nI k))] [] m1 := by
    have fin : ∀ (m1 : Wm) (x3 x4 : Int32), WT m1 → Fx (RS [20, 22, 24, 26, 28, 34, 35, 49]) m m1 → HL sd 204 0 m1 g → 0 ≤ x3.toInt → x3.toInt ≤ 2999 → Ct ad μX12_bring (d + 177) [.ref (ad 187), .ref (ad 204), .int (0 : Int32)] m1 (fun r m2 => r = none ∧ (vp_in x3 3000 ∧ (Ct ad μX12_tell (d + 177) [.ref (ad 187), .long (((uI m2 187 16 (0 : Int32)).1 207 x3.toNatClampNeg).toInt64)] (uI m2 187 16 (0 : Int32)) (fun r m3 => r = none ∧ RP [20, 22, 24, 26, 28, 34, 35, 49] sd m g (some (.int x4)) m3)))) := by
      intro m1 x3 x4 w1 f1 hq a b
      refine (bringH (x := 0) (na := 57) rfl (by decide) (by decide) w1 hq (by decide)).to ?_
      rintro _ m2 ⟨rfl, w2, f2, hm2⟩
      have w3 : WT (uI m2 187 16 (0 : Int32)) := w2.t rfl (by decide) (by decide)
      have hm3 : HM sd (uI m2 187 16 (0 : Int32)) g := hm2
      refine ⟨rfl, vpi (by omega) (by omega), (s_X12_tell w3 (by rw [u_eq]; decide)).to ?_⟩
      rintro _ m4 ⟨w4, f4, rfl, -⟩
      exact ⟨rfl, w4, ((f1.tr f2 (RS_sub rfl)).i rfl).tr f4 (RS_sub rfl), hm3.fx f4 rfl rfl, _, rfl⟩
    intro n
    induction n with
    | zero =>
      intro m1 x3 x4 k hk w1 f1 hq a1 a2 a3 a4
      have t43 := w1.at (a := 187) (k := 43) rfl
      have tk : (nI k).toInt = (k : Int) := nI_toInt (by omega)
      exact g_X12_best_46 (d := d + 177) ⟨fun _ => fin m1 x3 x4 w1 f1 hq a3 a4, fun c => absurd (z_nle c) (by omega)⟩
    | succ n ih =>
      intro m1 x3 x4 k hk w1 f1 hq a1 a2 a3 a4
      have t43 := w1.at (a := 187) (k := 43) rfl
      have tk : (nI k).toInt = (k : Int) := nI_toInt (by omega)
      refine g_X12_best_46 (d := d + 177) ⟨fun _ => fin m1 x3 x4 w1 f1 hq a3 a4, fun c => ?_⟩
      have c' := z_nle c
      refine (s_X12_load (d := d + 177) w1 (by omega) (by omega)).to ?_
      rintro _ m2 ⟨w2, f2, rfl⟩
      refine ⟨rfl, (s_X12_power (d := d + 9) w2 a1 a2).to ?_⟩
      rintro _ m3 ⟨w3, f3, v, rfl⟩
      have f3' := (f1.tr f2 (RS_sub rfl)).tr f3 (RS_sub rfl)
      have hq3 := (hq.fx f2 (fun _ => rfl) rfl).fx f3 (fun _ => rfl) rfl
      rw [nI_1]
      exact ⟨v, rfl, fun _ => ih m3 _ _ (k + 1) (by omega) w3 f3' hq3 a1 a2 (by omega) (by omega), fun _ => ⟨fun _ => ih m3 _ _ (k + 1) (by omega) w3 f3' hq3 a1 a2 (by omega) (by omega), fun _ => ih m3 _ _ (k + 1) (by omega) w3 f3' hq3 a1 a2 a3 a4⟩⟩
  refine v_X12_best (d := d + 177) ((isSideH (d := d + 176) w0).to ?_)
  rintro _ m' ⟨eq, v1, rfl, q1⟩
  obtain rfl := eq.symm
  refine ⟨v1, rfl, fun _ => ⟨w0, f0, hm0, _, rfl⟩, fun c1 => (inH (lo := 0) (hi := 9) rfl rfl).to ?_⟩
  rintro _ m' ⟨eq, v2, rfl, q2⟩
  obtain rfl := eq.symm
  refine ⟨v2, rfl, fun _ => (r_findStates (d := d) w0 hm0 hs0 hs8).to ?_, fun _ => ⟨w0, f0, hm0, _, rfl⟩⟩
  rintro _ m1 ⟨w1, f1, s1, ⟨hm1, hq⟩, h1, v, rfl, -⟩
  have u1 := q1.resolve_left c1
  have t0 := w0.at (a := 187) (k := 1) rfl
  exact ⟨v, rfl, fun _ => L 3001 m1 0 0 0 (by decide) w1 (f0.tr f1 (RS_sub rfl)) hq (by omega) (by omega) (by decide) (by decide), fun _ => ⟨w1, f0.tr f1 (RS_sub rfl), hm1, _, rfl⟩⟩
theorem r_even {d : Nat} {x1 : Int32} (w : WT m) (hm : HM sd m g) (hs : m.1 187 1 = nI sd) (hs8 : sd ≤ 8) : Ct ad μX12_even (d + 178) [.ref (ad 187), .int x1] m (RP [20, 22, 24, 26, 28, 34, 35, 49, 33] sd m g) := by
  have z0 : (0 : Int32).toInt = 0 := rfl
  have w0 : WT (uI m 187 17 0) := w.n rfl
  have f0 : Fx (RS [20, 22, 24, 26, 28, 34, 35, 49, 33]) m (uI m 187 17 0) := Fx.rf.i rfl
  have hm0 : HM sd (uI m 187 17 0) g := hm
  have hs0 : (uI m 187 17 0).1 187 1 = nI sd := hs
  have ts : (nI sd).toInt = sd := nI_toInt (by omega)
  have L : ∀ n : Nat, ∀ (m1 : Wm) (x2 x3 : Int32) (k : Nat), k + n = 3001 → WT m1 → Fx (RS [20, 22, 24, 26, 28, 34, 35, 49, 33]) m m1 → HL sd 204 0 m1 g → 0 ≤ x2.toInt → x2.toInt ≤ 2999 → AW ad E0 μX12_even (d + 178) (RP [20, 22, 24, 26, 28, 34, 35, 49, 33] sd m g) 44 [(0, .ref (ad 187)), (2, .int x2), (3, .int x3), (4, .int (nI k))] [] m1 := by
    have fin : ∀ (m1 : Wm) (x2 x3 : Int32), WT m1 → Fx (RS [20, 22, 24, 26, 28, 34, 35, 49, 33]) m m1 → HL sd 204 0 m1 g → 0 ≤ x2.toInt → x2.toInt ≤ 2999 → Ct ad μX12_bring (d + 177) [.ref (ad 187), .ref (ad 204), .int (0 : Int32)] m1 (fun r m2 => r = none ∧ (vp_in x2 3000 ∧ (Ct ad μX12_tell (d + 177) [.ref (ad 187), .long (((uI m2 187 16 (0 : Int32)).1 207 x2.toNatClampNeg).toInt64)] (uI m2 187 16 (0 : Int32)) (fun r m3 => r = none ∧ RP [20, 22, 24, 26, 28, 34, 35, 49, 33] sd m g (some (.int x3)) m3)))) := by
      intro m1 x2 x3 w1 f1 hq a b
      refine (bringH (x := 0) (na := 57) rfl (by decide) (by decide) w1 hq (by decide)).to ?_
      rintro _ m2 ⟨rfl, w2, f2, hm2⟩
      have w3 : WT (uI m2 187 16 (0 : Int32)) := w2.t rfl (by decide) (by decide)
      have hm3 : HM sd (uI m2 187 16 (0 : Int32)) g := hm2
      refine ⟨rfl, vpi (by omega) (by omega), (s_X12_tell w3 (by rw [u_eq]; decide)).to ?_⟩
      rintro _ m4 ⟨w4, f4, rfl, -⟩
      exact ⟨rfl, w4, ((f1.tr f2 (RS_sub rfl)).i rfl).tr f4 (RS_sub rfl), hm3.fx f4 rfl rfl, _, rfl⟩
    intro n
    induction n with
    | zero =>
      intro m1 x2 x3 k hk w1 f1 hq a3 a4
      have t43 := w1.at (a := 187) (k := 43) rfl
      have tk : (nI k).toInt = (k : Int) := nI_toInt (by omega)
      exact g_X12_even_44 (d := d + 177) ⟨fun _ => fin m1 x2 x3 w1 f1 hq a3 a4, fun c => absurd (z_nle c) (by omega)⟩
    | succ n ih =>
      intro m1 x2 x3 k hk w1 f1 hq a3 a4
      have t43 := w1.at (a := 187) (k := 43) rfl
      have tk : (nI k).toInt = (k : Int) := nI_toInt (by omega)
      refine g_X12_even_44 (d := d + 177) ⟨fun _ => fin m1 x2 x3 w1 f1 hq a3 a4, fun c => ?_⟩
      have c' := z_nle c
      refine (s_X12_load (d := d + 177) w1 (by omega) (by omega)).to ?_
      rintro _ m2 ⟨w2, f2, rfl⟩
      refine ⟨rfl, (s_X12_spreadNow (d := d + 8) w2).to ?_⟩
      rintro _ m3 ⟨w3, f3, v, rfl⟩
      have f3' := (f1.tr f2 (RS_sub rfl)).tr f3 (RS_sub rfl)
      have hq3 := (hq.fx f2 (fun _ => rfl) rfl).fx f3 (fun _ => rfl) rfl
      rw [nI_1]
      exact ⟨v, rfl, fun _ => ih m3 _ _ (k + 1) (by omega) w3 f3' hq3 (by omega) (by omega), fun _ => ⟨fun _ => ih m3 _ _ (k + 1) (by omega) w3 f3' hq3 (by omega) (by omega), fun _ => ih m3 _ _ (k + 1) (by omega) w3 f3' hq3 a3 a4⟩⟩
  refine v_X12_even (d := d + 177) ((inH (lo := 0) (hi := 9) rfl rfl).to ?_)
  rintro _ m' ⟨eq, v1, rfl, q1⟩
  obtain rfl := eq.symm
  refine ⟨v1, rfl, fun _ => ⟨w0, f0, hm0, _, rfl⟩, fun c1 => ⟨fun _ => (r_findStates (d := d) w0 hm0 hs0 hs8).to ?_, fun _ => ⟨w0, f0, hm0, _, rfl⟩⟩⟩
  rintro _ m1 ⟨w1, f1, s1, ⟨hm1, hq⟩, h1, v, rfl, -⟩
  exact ⟨v, rfl, fun _ => L 3001 m1 0 0 0 (by decide) w1 (f0.tr f1 (RS_sub rfl)) hq (by decide) (by decide), fun _ => ⟨w1, f0.tr f1 (RS_sub rfl), hm1, _, rfl⟩⟩
theorem r_all {d : Nat} (w : WT m) (hm : HM sd m g) (hs : m.1 187 1 = nI sd) (hs8 : sd ≤ 8) : Ct ad μX12_all (d + 178) [.ref (ad 187)] m (RP [20, 22, 24, 26, 28, 34, 35, 49] sd m g) := by
  have z0 : (0 : Int32).toInt = 0 := rfl
  have w0 : WT (uI m 187 17 0) := w.n rfl
  have f0 : Fx (RS [20, 22, 24, 26, 28, 34, 35, 49]) m (uI m 187 17 0) := Fx.rf.i rfl
  have hm0 : HM sd (uI m 187 17 0) g := hm
  have hs0 : (uI m 187 17 0).1 187 1 = nI sd := hs
  have ts : (nI sd).toInt = sd := nI_toInt (by omega)
  have L : ∀ n : Nat, ∀ (m1 : Wm) (x1 x2 : Int32) (k : Nat), k + n = 3001 → WT m1 → Fx (RS [20, 22, 24, 26, 28, 34, 35, 49]) m m1 → HL sd 204 0 m1 g → 1 ≤ (m1.1 187 43).toInt → AW ad E0 μX12_all (d + 178) (RP [20, 22, 24, 26, 28, 34, 35, 49] sd m g) 26 [(0, .ref (ad 187)), (1, .int x1), (2, .int x2), (3, .int (nI k))] [] m1 := by
    intro n
    induction n with
    | zero =>
      intro m1 x1 x2 k hk w1 f1 hq a1
      have t43 := w1.at (a := 187) (k := 43) rfl
      have tk : (nI k).toInt = (k : Int) := nI_toInt (by omega)
      refine g_X12_all_26 (d := d + 177) ⟨fun _ => ?_, fun c => absurd (z_nle c) (by omega)⟩
      refine (bringH (x := 0) (na := 57) rfl (by decide) (by decide) w1 hq (by decide)).to ?_
      rintro _ m2 ⟨rfl, w2, f2, hm2⟩
      have e2 : m2.1 187 43 = m1.1 187 43 := f2.at (by decide)
      have w3 : WT (uI m2 187 16 (0 : Int32)) := w2.t rfl (by decide) (by decide)
      have hm3 : HM sd (uI m2 187 16 (0 : Int32)) g := hm2
      refine ⟨rfl, (s_X12_tell w3 (by rw [u_eq]; decide)).to ?_⟩
      rintro _ m4 ⟨w4, f4, rfl, p4⟩
      have p4' : (m4.1 187 16).toInt = 0 + 1 := p4
      refine ⟨rfl, (s_X12_tell w4 (by omega)).to ?_⟩
      rintro _ m5 ⟨w5, f5, rfl, p5⟩
      have e5 : m5.1 187 43 = m1.1 187 43 := (f5.at (by decide)).trans ((f4.at (by decide)).trans e2)
      have t5 := ti_subc (x := m5.1 187 43) (y := (1 : Int32)) (c := 1) rfl (by rw [e5]; omega)
      refine ⟨rfl, vpi (by rw [t5, e5]; omega) (by rw [t5, e5]; omega), (s_X12_tell w5 (by omega)).to ?_⟩
      rintro _ m6 ⟨w6, f6, rfl, -⟩
      exact ⟨rfl, w6, ((((f1.tr f2 (RS_sub rfl)).i rfl).tr f4 (RS_sub rfl)).tr f5 (RS_sub rfl)).tr f6 (RS_sub rfl), ((hm3.fx f4 rfl rfl).fx f5 rfl rfl).fx f6 rfl rfl, _, rfl⟩
    | succ n ih =>
      intro m1 x1 x2 k hk w1 f1 hq a1
      have t43 := w1.at (a := 187) (k := 43) rfl
      have tk : (nI k).toInt = (k : Int) := nI_toInt (by omega)
      refine g_X12_all_26 (d := d + 177) ⟨fun _ => ?_, fun c => ?_⟩
      · refine (bringH (x := 0) (na := 57) rfl (by decide) (by decide) w1 hq (by decide)).to ?_
        rintro _ m2 ⟨rfl, w2, f2, hm2⟩
        have e2 : m2.1 187 43 = m1.1 187 43 := f2.at (by decide)
        have w3 : WT (uI m2 187 16 (0 : Int32)) := w2.t rfl (by decide) (by decide)
        have hm3 : HM sd (uI m2 187 16 (0 : Int32)) g := hm2
        refine ⟨rfl, (s_X12_tell w3 (by rw [u_eq]; decide)).to ?_⟩
        rintro _ m4 ⟨w4, f4, rfl, p4⟩
        have p4' : (m4.1 187 16).toInt = 0 + 1 := p4
        refine ⟨rfl, (s_X12_tell w4 (by omega)).to ?_⟩
        rintro _ m5 ⟨w5, f5, rfl, p5⟩
        have e5 : m5.1 187 43 = m1.1 187 43 := (f5.at (by decide)).trans ((f4.at (by decide)).trans e2)
        have t5 := ti_subc (x := m5.1 187 43) (y := (1 : Int32)) (c := 1) rfl (by rw [e5]; omega)
        refine ⟨rfl, vpi (by rw [t5, e5]; omega) (by rw [t5, e5]; omega), (s_X12_tell w5 (by omega)).to ?_⟩
        rintro _ m6 ⟨w6, f6, rfl, -⟩
        exact ⟨rfl, w6, ((((f1.tr f2 (RS_sub rfl)).i rfl).tr f4 (RS_sub rfl)).tr f5 (RS_sub rfl)).tr f6 (RS_sub rfl), ((hm3.fx f4 rfl rfl).fx f5 rfl rfl).fx f6 rfl rfl, _, rfl⟩
      · have c' := z_nle c
        refine (s_X12_load (d := d + 177) w1 (by omega) (by omega)).to ?_
        rintro _ m2 ⟨w2, f2, rfl⟩
        refine ⟨rfl, (s_X12_sumOfAll (d := d + 176) w2).to ?_⟩
        rintro _ m3 ⟨w3, f3, v, rfl⟩
        have f3' := (f1.tr f2 (RS_sub rfl)).tr f3 (RS_sub rfl)
        have hq3 := (hq.fx f2 (fun _ => rfl) rfl).fx f3 (fun _ => rfl) rfl
        have e43 : m3.1 187 43 = m1.1 187 43 := (f3.at (by decide)).trans (f2.at (by decide))
        rw [nI_1]
        exact ⟨v, rfl, ih m3 _ _ (k + 1) (by omega) w3 f3' hq3 (by rw [e43]; exact a1)⟩
  refine v_X12_all (d := d + 177) ((r_findStates (d := d) w0 hm0 hs0 hs8).to ?_)
  rintro _ m1 ⟨w1, f1, s1, ⟨hm1, hq⟩, h1, v, rfl, -⟩
  exact ⟨v, rfl, fun _ => L 3001 m1 0 256 0 (by decide) w1 (f0.tr f1 (RS_sub rfl)) hq h1, fun _ => ⟨w1, f0.tr f1 (RS_sub rfl), hm1, _, rfl⟩⟩
theorem r_top {d : Nat} {x1 x2 x3 : Int32} (w : WT m) (hm : HM sd m g) (hs : m.1 187 1 = nI sd) (hs8 : sd ≤ 8) : Ct ad μX12_top (d + 178) [.ref (ad 187), .int x1, .int x2, .int x3] m (RP [20, 22, 24, 26, 28, 34, 35, 38, 49] sd m g) := by
  have z0 : (0 : Int32).toInt = 0 := rfl
  have L : ∀ n : Nat, ∀ (m1 : Wm) (k : Nat), k + n = 3001 → WT m1 → Fx (RS [20, 22, 24, 26, 28, 34, 35, 38, 49]) m m1 → ST m1 → HM sd m1 g → 0 ≤ x1.toInt → x1.toInt ≤ 7 → 0 ≤ x2.toInt → x2.toInt ≤ 3 → AW ad E0 μX12_top (d + 178) (RP [20, 22, 24, 26, 28, 34, 35, 38, 49] sd m g) 51 [(0, .ref (ad 187)), (1, .int x1), (2, .int x2), (3, .int x3), (4, .int (nI k))] [] m1 := by
    intro n
    induction n with
    | zero =>
      intro m1 k hk w1 f1 s1 hm1 a1 a2 a3 a4
      have t43 := w1.at (a := 187) (k := 43) rfl
      have tk : (nI k).toInt = (k : Int) := nI_toInt (by omega)
      exact g_X12_top_51 ⟨fun _ => ⟨w1, f1, hm1, _, rfl⟩, fun c => absurd (z_nle c) (by omega)⟩
    | succ n ih =>
      intro m1 k hk w1 f1 s1 hm1 a1 a2 a3 a4
      have t43 := w1.at (a := 187) (k := 43) rfl
      have tk : (nI k).toInt = (k : Int) := nI_toInt (by omega)
      refine g_X12_top_51 ⟨fun _ => ⟨w1, f1, hm1, _, rfl⟩, fun c => ?_⟩
      have c' := z_nle c
      refine (s_X12_skillIn w1 (by omega) (by omega) a1 a2 a3 a4).to ?_
      rintro _ m2 ⟨w2, f2, v, rfl⟩
      have s2 := s1.fx f2 rfl
      have e2 := f2.at (a := 187) (k := 43) (by decide)
      refine ⟨v, rfl, fun _ => ?_, fun _ => (tellWay_ok w2 s2 (by omega) (by rw [e2]; omega)).to ?_⟩
      · rw [nI_1]
        exact ih m2 (k + 1) (by omega) w2 (f1.tr f2 (RS_sub rfl)) s2 (hm1.fx f2 rfl rfl) a1 a2 a3 a4
      · rintro _ m3 ⟨w3, f3, v3, rfl⟩
        exact ⟨v3, rfl, w3, (f1.tr f2 (RS_sub rfl)).tr f3 (RS_sub rfl), (hm1.fx f2 rfl rfl).fx f3 rfl rfl, _, rfl⟩
  have w0 : WT (uI m 187 17 0) := w.n rfl
  have f0 : Fx (RS [20, 22, 24, 26, 28, 34, 35, 38, 49]) m (uI m 187 17 0) := Fx.rf.i rfl
  refine v_X12_top ((s_X12_isSide w0).to ?_)
  rintro _ m1 ⟨w1, f1, v1, rfl, a1, a2, a3⟩
  have f1' := f0.tr f1 (RS_sub rfl)
  have hm1 : HM sd m1 g := HM.fx (m := uI m 187 17 0) hm f1 rfl rfl
  have hs1 : m1.1 187 1 = nI sd := (f1.at (nRS (ρ := 23) rfl rfl)).trans hs
  refine ⟨v1, rfl, fun _ => ⟨w1, f1', hm1, _, rfl⟩, fun c1 => (s_X12_isArt w1).to ?_⟩
  rintro _ m2 ⟨w2, f2, v2, rfl, b1, b2, b3⟩
  have f2' := f1'.tr f2 (RS_sub rfl)
  have hm2 := hm1.fx f2 rfl rfl
  have hs2 : m2.1 187 1 = nI sd := (f2.at (nRS (ρ := 23) rfl rfl)).trans hs1
  refine ⟨v2, rfl, fun _ => ⟨w2, f2', hm2, _, rfl⟩, fun c2 => (s_X12_in (x := x3) (lo := 0) (hi := 7) w2 rfl rfl).to ?_⟩
  rintro _ m3 ⟨w3, f3, v3, rfl, -⟩
  have f3' := f2'.tr f3 (RS_sub rfl)
  have hm3 := hm2.fx f3 rfl rfl
  have hs3 : m3.1 187 1 = nI sd := (f3.at (nRS (ρ := 23) rfl rfl)).trans hs2
  refine ⟨v3, rfl, fun _ => (r_findStates w3 hm3 hs3 hs8).to ?_, fun _ => ⟨w3, f3', hm3, _, rfl⟩⟩
  rintro _ m4 ⟨w4, f4, s4, ⟨hm4, hq4⟩, g4, v4, rfl, -⟩
  have f4' := f3'.tr f4 (RS_sub rfl)
  have k1 := z_ne c1
  have k2 := z_ne c2
  have t0 := w0.at (a := 187) (k := 1) rfl
  have t1 := w1.at (a := 187) (k := 0) rfl
  refine ⟨v4, rfl, fun _ => L 3001 m4 0 (by decide) w4 f4' s4 hm4 (by omega) (by omega) (by omega) (by omega), fun _ => ⟨w4, f4', hm4, _, rfl⟩⟩
theorem r_quick {d : Nat} {x1 : Int32} (w : WT m) (hm : HM sd m g) (hs : m.1 187 1 = nI sd) (hs8 : sd ≤ 8) : Ct ad μX12_quick (d + 178) [.ref (ad 187), .int x1] m (RP [20, 22, 24, 26, 28, 34, 35, 38, 49] sd m g) := by
  have z0 : (0 : Int32).toInt = 0 := rfl
  have zn1 : (-1 : Int32).toInt = -1 := rfl
  have w0 : WT (uI m 187 17 0) := w.n rfl
  have f0 : Fx (RS [20, 22, 24, 26, 28, 34, 35, 38, 49]) m (uI m 187 17 0) := Fx.rf.i rfl
  have L100 : ∀ (m1 : Wm) (x2 : Int32), WT m1 → Fx (RS [20, 22, 24, 26, 28, 34, 35, 38, 49]) m m1 → ST m1 → HL sd 204 0 m1 g → x2.toInt = -1 ∨ (0 ≤ x2.toInt ∧ x2.toInt < (m1.1 187 43).toInt) → AW ad E0 μX12_quick (d + 178) (RP [20, 22, 24, 26, 28, 34, 35, 38, 49] sd m g) 100 [(0, .ref (ad 187)), (2, .int x2)] [] m1 := by
    intro m1 x2 w1 f1 s1 hq h
    refine g_X12_quick_100 ((bringH (x := 0) (na := 57) rfl (by decide) (by decide) w1 hq (by decide)).to ?_)
    rintro _ m2 ⟨rfl, w2, f2, hm2⟩
    have s2 := s1.fx f2 rfl
    have e2 := f2.at (a := 187) (k := 43) (by decide)
    refine ⟨rfl, fun c => ?_, fun _ => ⟨w2, f1.tr f2 (RS_sub rfl), hm2, _, rfl⟩⟩
    have c' := z_ne c
    refine (tellWay_ok w2 s2 (by omega) (by rw [e2]; omega)).to ?_
    rintro _ m3 ⟨w3, f3, v3, rfl⟩
    exact ⟨v3, rfl, w3, (f1.tr f2 (RS_sub rfl)).tr f3 (RS_sub rfl), hm2.fx f3 rfl rfl, _, rfl⟩
  have L : ∀ n : Nat, (∀ (m1 : Wm) (x2 x3 : Int32), WT m1 → Fx (RS [20, 22, 24, 26, 28, 34, 35, 38, 49]) m m1 → ST m1 → HL sd 204 0 m1 g → (x2.toInt = -1 ∨ (0 ≤ x2.toInt ∧ x2.toInt < (m1.1 187 43).toInt)) → 0 ≤ x3.toInt → x3.toInt ≤ 3000 → (3000 - x3.toInt) * 20 + 15 < (n : Int) → AW ad E0 μX12_quick (d + 178) (RP [20, 22, 24, 26, 28, 34, 35, 38, 49] sd m g) 22 [(0, .ref (ad 187)), (1, .int x1), (2, .int x2), (3, .int x3)] [] m1) ∧
      (∀ (m1 : Wm) (x3 x4 x5 : Int32), WT m1 → Fx (RS [20, 22, 24, 26, 28, 34, 35, 38, 49]) m m1 → ST m1 → HL sd 204 0 m1 g → 0 ≤ x3.toInt → x3.toInt < (m1.1 187 43).toInt → 0 ≤ x5.toInt → x5.toInt ≤ 8 → (3000 - x3.toInt) * 20 + 10 - x5.toInt < (n : Int) → AW ad E0 μX12_quick (d + 178) (RP [20, 22, 24, 26, 28, 34, 35, 38, 49] sd m g) 46 [(0, .ref (ad 187)), (1, .int x1), (3, .int x3), (4, .int x4), (5, .int x5)] [] m1) ∧
      (∀ (m1 : Wm) (x3 x4 : Int32), WT m1 → Fx (RS [20, 22, 24, 26, 28, 34, 35, 38, 49]) m m1 → ST m1 → HL sd 204 0 m1 g → 0 ≤ x3.toInt → x3.toInt < (m1.1 187 43).toInt → (3000 - x3.toInt) * 20 < (n : Int) → AW ad E0 μX12_quick (d + 178) (RP [20, 22, 24, 26, 28, 34, 35, 38, 49] sd m g) 83 [(0, .ref (ad 187)), (1, .int x1), (3, .int x3), (4, .int x4)] [] m1) := by
    intro n
    induction n with
    | zero =>
      refine ⟨fun m1 x2 x3 w1 f1 s1 hq h a b c => ?_, fun m1 x3 x4 x5 w1 f1 s1 hq a b c e g => ?_, fun m1 x3 x4 w1 f1 s1 hq a b c => ?_⟩
      all_goals have t43 := w1.at (a := 187) (k := 43) rfl
      all_goals exfalso
      all_goals omega
    | succ n ih =>
      refine ⟨fun m1 x2 x3 w1 f1 s1 hq h a b c => ?_, fun m1 x3 x4 x5 w1 f1 s1 hq a b c e g => ?_, fun m1 x3 x4 w1 f1 s1 hq a b c => ?_⟩
      all_goals have t43 := w1.at (a := 187) (k := 43) rfl
      · refine g_X12_quick_22 ⟨fun _ => L100 _ _ w1 f1 s1 hq h, fun q => ⟨fun _ => L100 _ _ w1 f1 s1 hq h, fun _ => ?_⟩⟩
        have q' := z_nle q
        refine (s_X12_load w1 (by omega) (by omega)).to ?_
        rintro _ m2 ⟨w2, f2, rfl⟩
        have e2 := f2.at (a := 187) (k := 43) (by decide)
        exact ⟨rfl, ih.2.1 m2 x3 1 0 w2 (f1.tr f2 (RS_sub rfl)) (s1.fx f2 rfl) (hq.fx f2 (fun _ => rfl) rfl) a (by rw [e2]; omega) (by decide) (by decide) (by omega)⟩
      · have t11 := w1.at (a := 187) (k := 1) rfl
        refine g_X12_quick_46 ⟨fun _ => ih.2.2 m1 x3 x4 w1 f1 s1 hq a b (by omega), fun q => ⟨fun _ => ih.2.2 m1 x3 x4 w1 f1 s1 hq a b (by omega), fun _ => ?_⟩⟩
        have q' := z_nle q
        have t5 := ti_addc (x := x5) (y := 1) (c := 1) rfl (by omega)
        refine (s_X12_power w1 (by omega) (by omega)).to ?_
        rintro _ m2 ⟨w2, f2, v, rfl⟩
        have e2 := f2.at (a := 187) (k := 43) (by decide)
        have s2 := s1.fx f2 rfl
        have f2' := f1.tr f2 (RS_sub rfl)
        exact ⟨v, rfl, fun _ => ih.2.1 m2 x3 0 (x5 + 1) w2 f2' s2 (hq.fx f2 (fun _ => rfl) rfl) a (by rw [e2]; omega) (by omega) (by omega) (by omega), fun _ => ih.2.1 m2 x3 1 (x5 + 1) w2 f2' s2 (hq.fx f2 (fun _ => rfl) rfl) a (by rw [e2]; omega) (by omega) (by omega) (by omega)⟩
      · have t3 := ti_addc (x := x3) (y := 1) (c := 1) rfl (by omega)
        exact g_X12_quick_83 ⟨fun _ => ih.1 m1 (-1) (x3 + 1) w1 f1 s1 hq (Or.inl zn1) (by omega) (by omega) (by omega), fun _ => ih.1 m1 x3 (x3 + 1) w1 f1 s1 hq (Or.inr ⟨a, b⟩) (by omega) (by omega) (by omega)⟩
  refine v_X12_quick ((r_findStates w0 hm hs hs8).to ?_)
  rintro _ m4 ⟨w4, f4, s4, ⟨hm4, hq4⟩, g4, v4, rfl, -⟩
  have f4' := f0.tr f4 (RS_sub rfl)
  exact ⟨v4, rfl, fun _ => (L 100000).1 m4 (-1) 0 w4 f4' s4 hq4 (Or.inl zn1) (by decide) (by decide) (by rw [z0]; decide), fun _ => ⟨w4, f4', hm4, _, rfl⟩⟩
end RSB
/-! CHANCES OF GAMES AHEAD: the model's league is afterwards as it was -/
def selfG (m : Wm) : GS := (m.1 188, m.1 190, m.1 191, m.1 192, m.1 187 8)
theorem HM.self {n : Nat} {m : Wm} : HM n m (selfG m) := ⟨fun _ _ => rfl, fun _ _ => rfl, fun _ _ => rfl, fun _ _ => rfl, rfl⟩
def rwQ (sn : Nat) (m : Wm) (gs : GS) (g : Nat) (r : Option Value) (m' : Wm) : Prop := WT m' ∧ Fx (RS [22, 24, 28, 36, 37, 49]) m m' ∧ HM sn m' gs ∧ (∀ j, j < 57 * g → m'.1 211 j = m.1 211 j) ∧ ∃ v : Int64, r = some (.long v)
section RCO
variable {ad : Nat → Nat} {m : Wm}
theorem r_cow : ∀ (k : Nat) {d : Nat} {m : Wm} {x1 x4 : Int32} {g n : Nat} {gs : GS} {sn : Nat}, sn ≤ 8 → WT m → HM sn m gs → g + k = n → n ≤ 6 → 1 ≤ (m.1 187 10).toInt → Ct ad μX12_chanceOfWins (d + 2 * k + 172) [.ref (ad 187), .int x1, .int (nI g), .int (nI n), .int x4] m (rwQ sn m gs g) := by
  intro k
  induction k with
  | zero =>
    intro d m x1 x4 g n gs sn h8 w hm hk hn hG
    obtain rfl : g = n := by omega
    exact v_X12_chanceOfWins ⟨fun _ => ⟨w, Fx.rf, hm, fun _ _ => rfl, _, rfl⟩, fun _ => ⟨fun _ => ⟨fun c => absurd rfl c, fun _ => ⟨w, Fx.rf, hm, fun _ _ => rfl, _, rfl⟩⟩, fun _ => ⟨w, Fx.rf, hm, fun _ _ => rfl, _, rfl⟩⟩⟩
  | succ k ih =>
    intro d m x1 x4 g n gs sn h8 w hm hk hn hG
    have cb : ∀ {m : Wm} {x5 : Int32}, WT m → HM sn m gs → 1 ≤ (m.1 187 10).toInt → Ct ad μX12_chanceBehind (d + 2 * k + 173) [.ref (ad 187), .int x1, .int (nI g), .int (nI n), .int x4, .int x5] m (rwQ sn m gs g) := by
      intro m x5 w hm hG
      obtain ⟨hG0, r, hr, er, v0, v1, v2, hp⟩ := ix_rem w (g := g) (by omega) hG
      refine v_X12_chanceBehind (d := d + 2 * k + 172) ?_
      rw [er]
      have l57 : (57 : Int32) * nI g = nI (57 * g) := l_mul 57 57 rfl g
      have t57 : (nI (57 * g)).toInt = ((57 * g : Nat) : Int) := nI_toInt (by omega)
      rw [l57]
      refine ⟨hG0, v0, v1, (layH (x := 57 * g) (na := 399) (reg := 36) rfl (by decide) (by decide) (fun _ => rfl) (fun _ => rfl) w hm h8 (by omega)).to ?_⟩
      rintro _ m1 ⟨rfl, w1, f1, hL, hO, -⟩
      refine ⟨rfl, v2, (s_X12_settle w1 (hp m w).1.1 (hp m w).1.2 (hp m w).2.1 (hp m w).2.2).to ?_⟩
      rintro _ m2 ⟨w2, f2, rfl⟩
      have f2' : Fx (RS [22, 24, 28, 36, 37, 49]) m m2 := ((Fx.rf (S := RS [22, 24, 28, 36, 37, 49])).tr f1 (RS_sub rfl)).tr f2 (RS_sub rfl)
      have h10 : (m2.1 187 10).toInt = (m.1 187 10).toInt := congrArg _ (f2'.at (by decide))
      have J109 : ∀ s0 : Int32, AW ad E0 μX12_chanceBehind (d + 2 * k + 173) (rwQ sn m gs g) 109 [(0, .ref (ad 187)), (2, .int (nI g))] [.int s0, .int x4, .int (nI n), .int (nI g + 1), .int x1, .ref (ad 187)] m2 := by
        intro s0
        refine g_X12_chanceBehind_109 ?_
        rw [nI_1, l57]
        refine (ih (gs := selfG m2) (sn := sn) h8 w2 HM.self (by omega) hn (by omega)).to ?_
        rintro _ m3 ⟨w3, f3, -, b3, v, rfl⟩
        have hL3 : HL sn 211 (57 * g) m3 gs := (hL.fx f2 (fun _ => rfl) rfl).k (fun k h1 h2 => b3 k (by omega))
        refine ⟨v, rfl, (bringH (x := 57 * g) (na := 399) rfl (by decide) (by decide) w3 hL3 (by omega)).to ?_⟩
        rintro _ m4 ⟨rfl, w4, f4, hm4⟩
        exact ⟨rfl, w4, (f2'.tr f3 (RS_sub rfl)).tr f4 (RS_sub rfl), hm4, fun j hj => (f4.at (nRS (ρ := 36) rfl rfl)).trans ((b3 j (by omega)).trans ((f2.at (nRS (ρ := 36) rfl rfl)).trans (hO j (by omega)))), v, rfl⟩
      have J89 : ∀ s0 : Int32, AW ad E0 μX12_chanceBehind (d + 2 * k + 173) (rwQ sn m gs g) 89 [(0, .ref (ad 187)), (1, .int x1), (2, .int (nI g)), (3, .int (nI n)), (4, .int x4)] [.int s0] m2 := fun s0 => g_X12_chanceBehind_89 ⟨fun _ => J109 0, fun _ => J109 1⟩
      have J72 : ∀ x8 : Int32, AW ad E0 μX12_chanceBehind (d + 2 * k + 173) (rwQ sn m gs g) 72 [(0, .ref (ad 187)), (1, .int x1), (2, .int (nI g)), (3, .int (nI n)), (4, .int x4), (5, .int x5), (8, .int x8)] [] m2 := fun x8 => g_X12_chanceBehind_72 ⟨fun _ => J89 0, fun _ => ⟨fun _ => J89 0, fun _ => J89 1⟩⟩
      exact ⟨rfl, fun _ => J72 _, fun _ => ⟨fun _ => J89 1, fun _ => J72 _⟩⟩
    rw [show d + 2 * (k + 1) + 172 = d + 2 * k + 174 by omega]
    refine v_X12_chanceOfWins (d := d + 2 * k + 173) ⟨fun _ => ⟨w, Fx.rf, hm, fun _ _ => rfl, _, rfl⟩, fun _ => ⟨fun _ => ⟨fun _ => ?_, fun _ => ⟨w, Fx.rf, hm, fun _ _ => rfl, _, rfl⟩⟩, fun _ => ⟨w, Fx.rf, hm, fun _ _ => rfl, _, rfl⟩⟩⟩
    obtain ⟨hG0, r, hr, er, v0, v1, v2, hp⟩ := ix_rem w (g := g) (by omega) hG
    rw [er]
    refine ⟨hG0, v0, v1, v2, fun _ => (s_X12_chanceOf w (hp m w).1.1 (hp m w).1.2 (hp m w).2.1 (hp m w).2.2).to ?_, fun _ => (s_X12_winner w (hp m w).1.1 (hp m w).1.2 (hp m w).2.1 (hp m w).2.2).to ?_⟩
    · rintro _ m1 ⟨w1, f1, v, rfl, b1, b2⟩
      have hm1 := hm.fx f1 rfl rfl
      have o1 : ∀ j, j < 57 * g → m1.1 211 j = m.1 211 j := fun j _ => f1.at (nRS (ρ := 36) rfl rfl)
      have J : ∀ (m2 : Wm) (y9 z0 : Int64), WT m2 → Fx (RS [22, 24, 28, 36, 37, 49]) m m2 → HM sn m2 gs → (∀ j, j < 57 * g → m2.1 211 j = m.1 211 j) → AW ad E0 μX12_chanceOfWins (d + 2 * k + 174) (rwQ sn m gs g) 131 [(0, .ref (ad 187)), (1, .int x1), (2, .int (nI g)), (3, .int (nI n)), (4, .int x4), (9, .long y9)] [.long z0] m2 := by
        intro m2 y9 z0 w2 f2 hm2 o2
        refine g_X12_chanceOfWins_131 (d := d + 2 * k + 173) ⟨fun _ => ⟨w2, f2, hm2, o2, _, rfl⟩, fun _ => (cb w2 hm2 (by rw [f2.at (a := 187) (k := 10) (by decide)]; exact hG)).to ?_⟩
        rintro _ m3 ⟨w3, f3, hm3, o3, v3, rfl⟩
        exact ⟨v3, rfl, w3, f2.tr f3 (RS_sub rfl), hm3, fun j hj => (o3 j hj).trans (o2 j hj), _, rfl⟩
      have f1' : Fx (RS [22, 24, 28, 36, 37, 49]) m m1 := (Fx.rf (S := RS [22, 24, 28, 36, 37, 49])).tr f1 (RS_sub rfl)
      refine ⟨v, rfl, fun _ => J m1 _ _ w1 f1' hm1 o1, fun _ => (cb w1 hm1 (by rw [f1.at (a := 187) (k := 10) (by decide)]; exact hG)).to ?_⟩
      rintro _ m3 ⟨w3, f3, hm3, o3, v3, rfl⟩
      exact ⟨v3, rfl, J m3 _ _ w3 (f1'.tr f3 (RS_sub rfl)) hm3 (fun j hj => (o3 j hj).trans (o1 j hj))⟩
    · rintro _ m1 ⟨w1, f1, v, rfl, b1, b2⟩
      have hm1 := hm.fx f1 rfl rfl
      have o1 : ∀ j, j < 57 * g → m1.1 211 j = m.1 211 j := fun j _ => f1.at (nRS (ρ := 36) rfl rfl)
      refine ⟨v, rfl, (cb w1 hm1 (by rw [f1.at (a := 187) (k := 10) (by decide)]; exact hG)).to ?_⟩
      rintro _ m3 ⟨w3, f3, hm3, o3, v3, rfl⟩
      exact ⟨v3, rfl, w3, ((Fx.rf (S := RS [22, 24, 28, 36, 37, 49])).tr f1 (RS_sub rfl)).tr f3 (RS_sub rfl), hm3, fun j hj => (o3 j hj).trans (o1 j hj), _, rfl⟩
theorem r_hop : ∀ (k : Nat) {d : Nat} {m : Wm} {g n : Nat} {gs : GS} {sn : Nat}, sn ≤ 8 → WT m → HM sn m gs → g + k = n → n ≤ 6 → 1 ≤ (m.1 187 10).toInt → Ct ad μX12_hopeOf (d + 2 * k + 172) [.ref (ad 187), .int (nI g), .int (nI n)] m (rwQ sn m gs g) := by
  intro k
  induction k with
  | zero =>
    intro d m g n gs sn h8 w hm hk hn hG
    obtain rfl : g = n := by omega
    refine v_X12_hopeOf ⟨fun c => absurd rfl c, fun _ => (s_X12_sumOfAll w).to ?_⟩
    rintro _ m1 ⟨w1, f1, v, rfl⟩
    have hm1 := hm.fx f1 rfl rfl
    exact ⟨v, rfl, (w1.n rfl).n rfl, (((Fx.rf (S := RS [22, 24, 28, 36, 37, 49])).tr f1 (RS_sub rfl)).i rfl).i rfl, hm1, fun j _ => f1.at (nRS (ρ := 36) rfl rfl), _, rfl⟩
  | succ k ih =>
    intro d m g n gs sn h8 w hm hk hn hG
    have hgn : nI g ≠ nI n := fun q => by
      have := congrArg Int32.toInt q
      rw [nI_toInt (by omega), nI_toInt (by omega)] at this
      omega
    have cb : ∀ {m : Wm} {x5 : Int32}, WT m → HM sn m gs → 1 ≤ (m.1 187 10).toInt → Ct ad μX12_hopeBehind (d + 2 * k + 173) [.ref (ad 187), .int (nI g), .int (nI n), .int x5] m (rwQ sn m gs g) := by
      intro m x5 w hm hG
      obtain ⟨hG0, r, hr, er, v0, v1, v2, hp⟩ := ix_rem w (g := g) (by omega) hG
      refine v_X12_hopeBehind (d := d + 2 * k + 172) ?_
      rw [er]
      have l57 : (57 : Int32) * nI g = nI (57 * g) := l_mul 57 57 rfl g
      have t57 : (nI (57 * g)).toInt = ((57 * g : Nat) : Int) := nI_toInt (by omega)
      rw [l57, nI_1]
      refine ⟨hG0, (layH (x := 57 * g) (na := 399) (reg := 36) rfl (by decide) (by decide) (fun _ => rfl) (fun _ => rfl) w hm h8 (by omega)).to ?_⟩
      rintro _ m1 ⟨rfl, w1, f1, hL, hO, -⟩
      refine ⟨rfl, v0, v1, v2, (s_X12_settle w1 (hp m1 w1).1.1 (hp m1 w1).1.2 (hp m1 w1).2.1 (hp m1 w1).2.2).to ?_⟩
      rintro _ m2 ⟨w2, f2, rfl⟩
      have f2' : Fx (RS [22, 24, 28, 36, 37, 49]) m m2 := ((Fx.rf (S := RS [22, 24, 28, 36, 37, 49])).tr f1 (RS_sub rfl)).tr f2 (RS_sub rfl)
      have h10 : (m2.1 187 10).toInt = (m.1 187 10).toInt := congrArg _ (f2'.at (by decide))
      refine ⟨rfl, (ih (gs := selfG m2) (sn := sn) h8 w2 HM.self (by omega) hn (by omega)).to ?_⟩
      rintro _ m3 ⟨w3, f3, -, b3, v, rfl⟩
      have hL3 : HL sn 211 (57 * g) m3 gs := (hL.fx f2 (fun _ => rfl) rfl).k (fun k h1 h2 => b3 k (by omega))
      refine ⟨v, rfl, (bringH (x := 57 * g) (na := 399) rfl (by decide) (by decide) w3 hL3 (by omega)).to ?_⟩
      rintro _ m4 ⟨rfl, w4, f4, hm4⟩
      exact ⟨rfl, w4, (f2'.tr f3 (RS_sub rfl)).tr f4 (RS_sub rfl), hm4, fun j hj => (f4.at (nRS (ρ := 36) rfl rfl)).trans ((b3 j (by omega)).trans ((f2.at (nRS (ρ := 36) rfl rfl)).trans (hO j (by omega)))), v, rfl⟩
    rw [show d + 2 * (k + 1) + 172 = d + 2 * k + 174 by omega]
    refine v_X12_hopeOf (d := d + 2 * k + 173) ⟨fun _ => ?_, fun c => absurd c hgn⟩
    obtain ⟨hG0, r, hr, er, v0, v1, v2, hp⟩ := ix_rem w (g := g) (by omega) hG
    rw [er]
    refine ⟨hG0, v2, fun _ => ⟨v0, v1, (s_X12_chanceOf w (hp m w).1.1 (hp m w).1.2 (hp m w).2.1 (hp m w).2.2).to ?_⟩, fun _ => ⟨v0, v1, (s_X12_winner w (hp m w).1.1 (hp m w).1.2 (hp m w).2.1 (hp m w).2.2).to ?_⟩⟩
    · rintro _ m1 ⟨w1, f1, v, rfl, b1, b2⟩
      have hm1 := hm.fx f1 rfl rfl
      have o1 : ∀ j, j < 57 * g → m1.1 211 j = m.1 211 j := fun j _ => f1.at (nRS (ρ := 36) rfl rfl)
      have J : ∀ (m2 : Wm) (y9 z0 : Int64), WT m2 → Fx (RS [22, 24, 28, 36, 37, 49]) m m2 → HM sn m2 gs → (∀ j, j < 57 * g → m2.1 211 j = m.1 211 j) → AW ad E0 μX12_hopeOf (d + 2 * k + 174) (rwQ sn m gs g) 134 [(0, .ref (ad 187)), (1, .int (nI g)), (2, .int (nI n)), (5, .long y9)] [.long z0] m2 := by
        intro m2 y9 z0 w2 f2 hm2 o2
        refine g_X12_hopeOf_134 (d := d + 2 * k + 173) ⟨fun _ => ⟨w2, f2, hm2, o2, _, rfl⟩, fun _ => (cb w2 hm2 (by rw [f2.at (a := 187) (k := 10) (by decide)]; exact hG)).to ?_⟩
        rintro _ m3 ⟨w3, f3, hm3, o3, v3, rfl⟩
        exact ⟨v3, rfl, w3, f2.tr f3 (RS_sub rfl), hm3, fun j hj => (o3 j hj).trans (o2 j hj), _, rfl⟩
      have f1' : Fx (RS [22, 24, 28, 36, 37, 49]) m m1 := (Fx.rf (S := RS [22, 24, 28, 36, 37, 49])).tr f1 (RS_sub rfl)
      refine ⟨v, rfl, fun _ => J m1 _ _ w1 f1' hm1 o1, fun _ => (cb w1 hm1 (by rw [f1.at (a := 187) (k := 10) (by decide)]; exact hG)).to ?_⟩
      rintro _ m3 ⟨w3, f3, hm3, o3, v3, rfl⟩
      exact ⟨v3, rfl, J m3 _ _ w3 (f1'.tr f3 (RS_sub rfl)) hm3 (fun j hj => (o3 j hj).trans (o1 j hj))⟩
    · rintro _ m1 ⟨w1, f1, v, rfl, b1, b2⟩
      have hm1 := hm.fx f1 rfl rfl
      have o1 : ∀ j, j < 57 * g → m1.1 211 j = m.1 211 j := fun j _ => f1.at (nRS (ρ := 36) rfl rfl)
      refine ⟨v, rfl, (cb w1 hm1 (by rw [f1.at (a := 187) (k := 10) (by decide)]; exact hG)).to ?_⟩
      rintro _ m3 ⟨w3, f3, hm3, o3, v3, rfl⟩
      exact ⟨v3, rfl, w3, ((Fx.rf (S := RS [22, 24, 28, 36, 37, 49])).tr f1 (RS_sub rfl)).tr f3 (RS_sub rfl), hm3, fun j hj => (o3 j hj).trans (o1 j hj), _, rfl⟩
theorem r_chanceOfWins {d : Nat} {x1 x3 x4 : Int32} {gs : GS} {sn : Nat} (h8 : sn ≤ 8) (w : WT m) (hm : HM sn m gs) (i1 : 0 ≤ x3.toInt) (i2 : x3.toInt ≤ 6) (i3 : 1 ≤ (m.1 187 10).toInt) : Ct ad μX12_chanceOfWins (d + 190) [.ref (ad 187), .int x1, .int 0, .int x3, .int x4] m (fun r m' => WT m' ∧ Fx (RS [22, 24, 28, 36, 37, 49]) m m' ∧ HM sn m' gs ∧ ∃ v : Int64, r = some (.long v)) := by
  obtain ⟨n, hn, rfl⟩ := zn_of i1
  rw [nI_toInt hn] at i2
  have h := r_cow (ad := ad) n (d := d + 18 - 2 * n) (x1 := x1) (x4 := x4) (g := 0) (n := n) h8 w hm (by omega) (by omega) i3
  rw [show d + 18 - 2 * n + 2 * n + 172 = d + 190 by omega] at h
  exact h.to (fun r m' q => ⟨q.1, q.2.1, q.2.2.1, q.2.2.2.2⟩)
theorem r_hopeOf {d : Nat} {x2 : Int32} {gs : GS} {sn : Nat} (h8 : sn ≤ 8) (w : WT m) (hm : HM sn m gs) (i1 : 0 ≤ x2.toInt) (i2 : x2.toInt ≤ 6) (i3 : 1 ≤ (m.1 187 10).toInt) : Ct ad μX12_hopeOf (d + 190) [.ref (ad 187), .int 0, .int x2] m (fun r m' => WT m' ∧ Fx (RS [22, 24, 28, 36, 37, 49]) m m' ∧ HM sn m' gs ∧ ∃ v : Int64, r = some (.long v)) := by
  obtain ⟨n, hn, rfl⟩ := zn_of i1
  rw [nI_toInt hn] at i2
  have h := r_hop (ad := ad) n (d := d + 18 - 2 * n) (g := 0) (n := n) h8 w hm (by omega) (by omega) i3
  rw [show d + 18 - 2 * n + 2 * n + 172 = d + 190 by omega] at h
  exact h.to (fun r m' q => ⟨q.1, q.2.1, q.2.2.1, q.2.2.2.2⟩)
end RCO
end
section
/-! ROUNDS: games one after another, by both sides -/
/-- league, what can be undone, how many were drawn, how many played -/
abbrev RSt : Type := GS × List GS × Nat × Nat
/-- first, second, thrown of the games, where rounds begin, how many rounds, how many games -/
abbrev PLN : Type := (Nat → Nat) × (Nat → Nat) × (Nat → Int32) × (Nat → Nat) × Nat × Nat
def f1P (p : PLN) : Nat → Nat := p.1
def f2P (p : PLN) : Nat → Nat := p.2.1
def thP (p : PLN) : Nat → Int32 := p.2.2.1
def snP (p : PLN) : Nat → Nat := p.2.2.2.1
def rdP (p : PLN) : Nat := p.2.2.2.2.1
def gmP (p : PLN) : Nat := p.2.2.2.2.2
/-- behind the last game of round ρ -/
def enP (p : PLN) (ρ : Nat) : Nat := if ρ + 1 < rdP p then snP p (ρ + 1) else gmP p
def nxP (p : PLN) (ρ : Nat) : Nat := if ρ + 1 < rdP p then ρ + 1 else 0
def stepR (lk sv : Bool) (v : EV) (p : PLN) (j : Nat) (S : RSt) : RSt :=
  (goG lk v (f1P p j) (f2P p j) (thP p j) S.1, (if sv = true then (S.1 :: S.2.1).take 20 else S.2.1), (if wonG lk v (f1P p j) (f2P p j) (thP p j) S.1 = 2 then S.2.2.1 + 1 else S.2.2.1), S.2.2.2 + 1)
def runR (lk sv : Bool) (v : EV) (p : PLN) : Nat → Nat → RSt → RSt
  | 0, _, S => S
  | k + 1, j, S => runR lk sv v p k (j + 1) (stepR lk sv v p j S)
def rdsR (lk sv : Bool) (v : EV) (p : PLN) : Nat → Nat → RSt → RSt
  | 0, _, S => S
  | k + 1, ρ, S => rdsR lk sv v p k (nxP p ρ) (runR lk sv v p (enP p ρ - snP p ρ) (snP p ρ) S)
/-- a plan that can be played -/
def PlnOK (v : EV) (p : PLN) : Prop := 1 ≤ rdP p ∧ rdP p ≤ 12 ∧ gmP p ≤ 40 ∧ SRel (rdP p - 1) (gmP p) (snP p) ∧ ∀ j, j < gmP p → f1P p j < nE v ∧ f2P p j < nE v ∧ f1P p j ≠ f2P p j ∧ (thP p j = 0 ∨ thP p j = 1 ∨ thP p j = 2 ∨ thP p j = 3)
/-- the class's plan at P -/
def PlnC (m : Wm) (p : PLN) : Prop := ∃ P Q, PRF m P Q ∧ m.1 P 5 = nI (rdP p) ∧ m.1 P 6 = nI (gmP p) ∧ (∀ j, j < gmP p → m.1 (P + 1) j = nI (f1P p j) ∧ m.1 (P + 2) j = nI (f2P p j) ∧ m.1 (P + 3) j = thP p j) ∧ ∀ ρ, ρ < rdP p → m.1 (P + 4) ρ = nI (snP p ρ)
def PlnM (m : Wm) (p : PLN) : Prop := m.1 187 11 = nI (rdP p) ∧ m.1 187 10 = nI (gmP p) ∧ ∀ j, j < gmP p → m.1 194 (4 * j) = nI (f1P p j) ∧ m.1 194 (4 * j + 1) = nI (f2P p j) ∧ m.1 194 (4 * j + 2) = thP p j ∧ ∃ ρ, ρ < rdP p ∧ m.1 194 (4 * j + 3) = nI ρ ∧ snP p ρ ≤ j ∧ j < enP p ρ
theorem sn_mono {r g : Nat} {sn : Nat → Nat} (h : SRel r g sn) : ∀ k ρ, ρ + k ≤ r → sn ρ ≤ sn (ρ + k) := by
  intro k
  induction k with
  | zero => intro ρ _; exact Nat.le_refl _
  | succ k ih => intro ρ hk; exact Nat.le_trans (ih ρ (by omega)) (h.2.1 (ρ + k) (by omega))
theorem sn_le {r g : Nat} {sn : Nat → Nat} (h : SRel r g sn) {ρ : Nat} (hρ : ρ ≤ r) : sn ρ ≤ g := by
  have := sn_mono h (r - ρ) ρ (by omega)
  rw [show ρ + (r - ρ) = r by omega] at this
  exact Nat.le_trans this h.2.2
section RDP
variable {v : EV} {p : PLN} {m m' : Wm}
theorem PlnOK.en (h : PlnOK v p) {ρ : Nat} (hρ : ρ < rdP p) : snP p ρ ≤ enP p ρ ∧ enP p ρ ≤ gmP p := by
  obtain ⟨h1, h2, h3, h4, h5⟩ := h
  unfold enP
  by_cases c : ρ + 1 < rdP p
  · rw [if_pos c]
    exact ⟨h4.2.1 ρ (by omega), sn_le h4 (by omega)⟩
  · rw [if_neg c]
    exact ⟨sn_le h4 (by omega), Nat.le_refl _⟩
/-- a game is in its round alone -/
theorem PlnOK.one (h : PlnOK v p) {ρ σ j : Nat} (hρ : ρ < rdP p) (hσ : σ < rdP p) (h1 : snP p ρ ≤ j) (h2 : j < enP p ρ) (h3 : snP p σ ≤ j) (h4 : j < enP p σ) : ρ = σ := by
  obtain ⟨a1, a2, a3, a4, a5⟩ := h
  have key : ∀ x y, x < y → y < rdP p → snP p y ≤ j → j < enP p x → False := fun x y hxy hy e1 e2 => by
    unfold enP at e2
    rw [if_pos (by omega)] at e2
    have := sn_mono a4 (y - (x + 1)) (x + 1) (by omega)
    rw [show x + 1 + (y - (x + 1)) = y by omega] at this
    omega
  rcases Nat.lt_trichotomy ρ σ with q | q | q
  · exact (key ρ σ q hσ h3 h2).elim
  · exact q
  · exact (key σ ρ q hρ h1 h4).elim
theorem nxP_lt (h : PlnOK v p) {ρ : Nat} : nxP p ρ < rdP p := by
  have := h.1
  unfold nxP
  split <;> omega
theorem nxP_mod (h : PlnOK v p) {x ρ : Nat} (hρ : x % rdP p = ρ) : (x + 1) % rdP p = nxP p ρ := by
  have h1 := h.1
  have hl := Nat.mod_lt x (show 0 < rdP p by omega)
  unfold nxP
  rw [Nat.add_mod, hρ]
  by_cases c : ρ + 1 < rdP p
  · rw [if_pos c]
    have : 1 % rdP p = 1 := Nat.mod_eq_of_lt (by omega)
    rw [this, Nat.mod_eq_of_lt c]
  · rw [if_neg c]
    by_cases r1 : rdP p = 1
    · rw [r1]; exact Nat.mod_one _
    · have : 1 % rdP p = 1 := Nat.mod_eq_of_lt (by omega)
      rw [this, show ρ + 1 = rdP p by omega, Nat.mod_self]
theorem runR_add {lk sv : Bool} : ∀ (a b j : Nat) (S : RSt), runR lk sv v p (a + b) j S = runR lk sv v p b (j + a) (runR lk sv v p a j S) := by
  intro a
  induction a with
  | zero => intro b j S; rw [Nat.zero_add]; rfl
  | succ a ih =>
    intro b j S
    rw [show a + 1 + b = (a + b) + 1 by omega]
    show runR lk sv v p (a + b) (j + 1) (stepR lk sv v p j S) = runR lk sv v p b (j + (a + 1)) (runR lk sv v p a (j + 1) (stepR lk sv v p j S))
    rw [ih b (j + 1) (stepR lk sv v p j S), show j + 1 + a = j + (a + 1) by omega]
end RDP
section RDM
variable {ad : Nat → Nat} {d : Nat} {m m0 : Wm} {v : EV} {p : PLN}
/-- what the model's state is while rounds are played -/
def RdM (n : Nat) (m : Wm) (S : RSt) : Prop := HM n m S.1 ∧ UnM n m S.2.1 ∧ S.2.1.length ≤ 20 ∧ m.1 187 33 = nI S.2.2.1 ∧ m.1 187 32 = nI S.2.2.2
theorem PlnM.fx {S : List Nat} {m' : Wm} (h : PlnM m p) (f : Fx (RS S) m m') (e1 : S.elem 25 = false) (e2 : S.elem 55 = false) : PlnM m' p := by
  obtain ⟨h1, h2, h3⟩ := h
  refine ⟨(f.at (nRS (ρ := 25) e1 rfl)).trans h1, (f.at (nRS (ρ := 25) e1 rfl)).trans h2, fun j hj => ?_⟩
  obtain ⟨a, b, c, ρ, e⟩ := h3 j hj
  have r : ∀ k, m'.1 194 k = m.1 194 k := fun k => f.at (nRS (ρ := 55) e2 rfl)
  exact ⟨(r _).trans a, (r _).trans b, (r _).trans c, ρ, e.1, (r _).trans e.2.1, e.2.2⟩
set_option maxHeartbeats 2000000 in
/-- round ρ from game j on -/
theorem roundM (hp : PlnOK v p) {lk sv : Bool} {x1 x2 x3 x4 x5 : Int32} (h3 : x3 = 0 ↔ sv = false) (h4 : x4 = 0 ↔ lk = false) {ρ : Nat} (hρ : ρ < rdP p) {Q : Option Value → Wm → Prop} (T : RSt)
    (K : ∀ m1, WT m1 → Fx (RS [22, 24, 28, 29, 31, 49]) m0 m1 → RdM (nE v) m1 T → AW ad E0 μX12_goRounds (d + 171) Q 13 [(0, .ref (ad 187)), (1, .int x1), (2, .int x2), (3, .int x3), (4, .int x4), (5, .int (x5 + (1 : Int32)))] [] m1)
    (hE : EM m0 v) (hP : PlnM m0 p) :
    ∀ (n j : Nat) (S : RSt) (m : Wm), j + n = gmP p → WT m → Fx (RS [22, 24, 28, 29, 31, 49]) m0 m → RdM (nE v) m S →
      T = runR lk sv v p (enP p ρ - (if j < snP p ρ then snP p ρ else j)) (if j < snP p ρ then snP p ρ else j) S →
      AW ad E0 μX12_goRounds (d + 171) Q 33 [(0, .ref (ad 187)), (1, .int x1), (2, .int x2), (3, .int x3), (4, .int x4), (5, .int x5), (6, .int (nI ρ)), (7, .int (nI j))] [] m := by
  intro n
  have hen := hp.en hρ
  induction n with
  | zero =>
    intro j S m hj w f R hT
    have P1 := hP.fx f rfl rfl
    obtain ⟨a1, a2, a3, a4, a5⟩ := hp
    refine g_X12_goRounds_33 (d := d + 170) ⟨fun _ => K m w f ?_, fun c => absurd (by rw [P1.2.1]; exact (nI_leI (by omega) (by omega)).mpr (by omega)) c⟩
    have : enP p ρ - (if j < snP p ρ then snP p ρ else j) = 0 := by split <;> omega
    rw [this] at hT
    rw [hT]
    exact R
  | succ n ih =>
    intro j S m hj w f R hT
    have P1 := hP.fx f rfl rfl
    have E1 := hE.fx f rfl
    obtain ⟨a1, a2, a3, a4, a5⟩ := hp
    obtain ⟨b1, b2, b3, σ, b4, b5, b6, b7⟩ := P1.2.2 j (by omega)
    obtain ⟨c1, c2, c3, c4⟩ := a5 j (by omega)
    have n8 := E1.2.2.1
    refine g_X12_goRounds_33 (d := d + 170) ⟨fun c => absurd (by rw [P1.2.1] at c; exact (nI_leI (by omega) (by omega)).mp c) (by omega), fun _ => ?_⟩
    rw [l_mul 4 4 rfl, add_l 3 3 rfl, nI_clamp (by omega), b5]
    refine ⟨nat_in (by omega) (by decide), fun q => ?_, fun q => ?_⟩
    · have hσ : σ = ρ := (nI_eq (a := σ) (b := ρ) (by omega) (by omega)).mp q
      subst hσ
      rw [if_neg (by omega)] at hT
      have hT2 : T = runR lk sv v p (enP p σ - (if j + 1 < snP p σ then snP p σ else j + 1)) (if j + 1 < snP p σ then snP p σ else j + 1) (stepR lk sv v p j S) := by
        rw [if_neg (by omega), hT, show enP p σ - j = (enP p σ - (j + 1)) + 1 by omega]
        rfl
      obtain ⟨R1, R2, R3, R4, R5⟩ := R
      -- the game, behind what was remembered
      have G : ∀ (H' : List GS) (m2 : Wm), H' = (if sv = true then (S.1 :: S.2.1).take 20 else S.2.1) → H'.length ≤ 20 → WT m2 → Fx (RS [22, 24, 28, 29, 31, 49]) m0 m2 → HM (nE v) m2 S.1 → UnM (nE v) m2 H' → m2.1 187 33 = nI S.2.2.1 → m2.1 187 32 = nI S.2.2.2 → AW ad E0 μX12_goRounds (d + 171) Q 69 [(0, .ref (ad 187)), (1, .int x1), (2, .int x2), (3, .int x3), (4, .int x4), (5, .int x5), (6, .int (nI σ)), (7, .int (nI j))] [] m2 := by
        intro H' m2 hH hl w2 f2 H2 U2 k33 k32
        have P2 := hP.fx f2 rfl rfl
        have E2 := hE.fx f2 rfl
        obtain ⟨d1, d2, d3, -⟩ := P2.2.2 j (by omega)
        refine g_X12_goRounds_69 (d := d + 170) ?_
        rw [l_mul 4 4 rfl, nI_1, add_l 2 2 rfl, nI_clamp (by omega), nI_clamp (by omega), nI_clamp (by omega), d1, d2, d3, k33]
        refine ⟨nat_in (by omega) (by decide), nat_in (by omega) (by decide), nat_in (by omega) (by decide), (goGameM (d := d) w2 H2 E2 c1 c2 c3 c4 h4).to ?_⟩
        rintro _ m3 ⟨w3, f3, rfl, H3⟩
        have f3' := f2.tr f3 (RS_sub rfl)
        have k32' : m3.1 187 32 = nI S.2.2.2 := (f3.at (nRS (ρ := 31) rfl rfl)).trans k32
        have U3 := U2.fx f3 rfl
        have fin : ∀ (y : Nat), y = (if wonG lk v (f1P p j) (f2P p j) (thP p j) S.1 = 2 then S.2.2.1 + 1 else S.2.2.1) → ∀ s0 : Int32, nI S.2.2.1 + s0 = nI y → AW ad E0 μX12_goRounds (d + 171) Q 120 [(0, .ref (ad 187)), (1, .int x1), (2, .int x2), (3, .int x3), (4, .int x4), (5, .int x5), (6, .int (nI σ)), (7, .int (nI j))] [.int s0, .int (nI S.2.2.1), .ref (ad 187)] m3 := by
          intro y hy s0 hs
          refine g_X12_goRounds_120 (d := d + 170) ?_
          have e32 : (uI m3 187 33 (nI S.2.2.1 + s0)).1 187 32 = nI S.2.2.2 := (u_ne (by omega)).trans k32'
          rw [e32, nI_1, nI_1, hs]
          have hH' : (stepR lk sv v p j S).2.1 = H' := hH.symm
          have hy' : (stepR lk sv v p j S).2.2.1 = y := hy.symm
          have hU : UnM (nE v) (uI (uI m3 187 33 (nI y)) 187 32 (nI (S.2.2.2 + 1))) H' := ⟨(u_ne (by omega)).trans ((u_ne (by omega)).trans U3.1), fun i hi => (U3.2 i hi).k (fun k _ _ => (u_ne (by omega)).trans (u_ne (by omega)))⟩
          refine ih (j + 1) (stepR lk sv v p j S) _ (by omega) ((w3.n rfl).n rfl) ((f3'.i rfl).i rfl) ⟨H3, by rw [hH']; exact hU, by rw [hH']; exact hl, ?_, u_eq⟩ hT2
          rw [hy']
          exact (u_ne (by omega)).trans u_eq
        refine ⟨_, rfl, fun q2 => fin _ (if_neg q2).symm 0 ?_, fun q2 => fin _ (if_pos q2).symm 1 ?_⟩
        · exact Int32.add_zero _
        · exact nI_1 _
      refine ⟨fun q3 => ?_, fun q3 => ?_⟩
      · exact G S.2.1 m (by rw [if_neg (by rw [h3.mp q3]; decide)]) R3 w f R1 R2 R4 R5
      · have hsv : sv = true := by
          cases z : sv with
          | true => rfl
          | false => exact absurd (h3.mpr z) q3
        refine (rememberM (d := d + 169) w R1 n8 R2 R3).to ?_
        rintro _ m2 ⟨rfl, w2, f2, U2⟩
        exact ⟨rfl, G _ m2 (by rw [if_pos hsv]) (by rw [List.length_take]; omega) w2 (f.tr f2 (RS_sub rfl)) (R1.fx f2 rfl rfl) U2 ((f2.at (nRS (ρ := 31) rfl rfl)).trans R4) ((f2.at (nRS (ρ := 31) rfl rfl)).trans R5)⟩
    · have hσ : σ ≠ ρ := fun z => q (by rw [z])
      have hout : j < snP p ρ ∨ enP p ρ ≤ j := by
        by_cases z : j < snP p ρ
        · exact Or.inl z
        · refine Or.inr (Nat.le_of_not_lt (fun z2 => hσ ?_))
          exact PlnOK.one ⟨a1, a2, a3, a4, a5⟩ b4 hρ b6 b7 (by omega) z2
      rw [nI_1]
      refine ih (j + 1) S m (by omega) w f R ?_
      rw [hT]
      rcases hout with z | z
      · rw [if_pos z]
        by_cases z2 : j + 1 < snP p ρ
        · rw [if_pos z2]
        · rw [if_neg z2, show snP p ρ = j + 1 by omega]
      · have e1 : enP p ρ - (if j < snP p ρ then snP p ρ else j) = 0 := by split <;> omega
        have e2 : enP p ρ - (if j + 1 < snP p ρ then snP p ρ else j + 1) = 0 := by split <;> omega
        rw [e1, e2]
        rfl
end RDM
section RDN
variable {ad : Nat → Nat} {d : Nat} {m m0 : Wm} {v : EV} {p : PLN} {g : GS} {H : List GS}
set_option maxHeartbeats 1000000 in
theorem rdsM (hp : PlnOK v p) {lk sv : Bool} {x3 x4 : Int32} (h3 : x3 = 0 ↔ sv = false) (h4 : x4 = 0 ↔ lk = false) {n fr : Nat} (hn : n ≤ 200) (hfr : fr < 12) {Q : Option Value → Wm → Prop} (T : RSt)
    (hE : EM m0 v) (hP : PlnM m0 p) (K : ∀ m1, WT m1 → Fx (RS [22, 24, 28, 29, 31, 49]) m0 m1 → RdM (nE v) m1 T → Q none m1) :
    ∀ (k i : Nat) (S : RSt) (m : Wm), i + k = n → WT m → Fx (RS [22, 24, 28, 29, 31, 49]) m0 m → RdM (nE v) m S → T = rdsR lk sv v p k ((fr + i) % rdP p) S →
      AW ad E0 μX12_goRounds (d + 171) Q 13 [(0, .ref (ad 187)), (1, .int (nI n)), (2, .int (nI fr)), (3, .int x3), (4, .int x4), (5, .int (nI i))] [] m := by
  intro k
  have hp1 := hp.1
  have hp2 := hp.2.1
  induction k with
  | zero =>
    intro i S m hi w f R hT
    refine g_X12_goRounds_13 (d := d + 170) ⟨fun _ => K m w f ?_, fun c => absurd ((nI_leI (by omega) (by omega)).mpr (by omega)) c⟩
    rw [hT]
    exact R
  | succ k ih =>
    intro i S m hi w f R hT
    have P1 := hP.fx f rfl rfl
    have hl := Nat.mod_lt (fr + i) (show 0 < rdP p by omega)
    refine g_X12_goRounds_13 (d := d + 170) ⟨fun c => absurd ((nI_leI (by omega) (by omega)).mp c) (by omega), fun _ => ?_⟩
    rw [P1.1, nI_add, nI_rem (by omega) (by omega) (by omega)]
    refine ⟨fun z => ?_, ?_⟩
    · have := (nI_eq (a := rdP p) (b := 0) (by omega) (by omega)).mp z
      omega
    · have hT2 : T = rdsR lk sv v p k (nxP p ((fr + i) % rdP p)) (runR lk sv v p (enP p ((fr + i) % rdP p) - snP p ((fr + i) % rdP p)) (snP p ((fr + i) % rdP p)) S) := hT
      rw [← nxP_mod hp rfl] at hT2
      have hg := hp.2.2.1
      refine roundM (d := d) hp h3 h4 hl (runR lk sv v p (enP p ((fr + i) % rdP p) - snP p ((fr + i) % rdP p)) (snP p ((fr + i) % rdP p)) S) (fun m1 w1 f1 R1 => ?_) hE hP (gmP p) 0 S m (by omega) w f R ?_
      · rw [nI_1]
        exact ih (i + 1) _ m1 (by omega) w1 f1 R1 hT2
      · by_cases z : 0 < snP p ((fr + i) % rdP p)
        · rw [if_pos z]
        · rw [if_neg z, show snP p ((fr + i) % rdP p) = 0 by omega]
/-- n rounds from fr on -/
theorem goRoundsM (hp : PlnOK v p) {lk sv : Bool} {x3 x4 : Int32} (h3 : x3 = 0 ↔ sv = false) (h4 : x4 = 0 ↔ lk = false) {n fr : Nat} (hn : n ≤ 200) (hfr : fr < rdP p) (w : WT m) (h : HM (nE v) m g) (U : UnM (nE v) m H) (hl : H.length ≤ 20) (hE : EM m v) (hP : PlnM m p) :
    Ct ad μX12_goRounds (d + 171) [.ref (ad 187), .int (nI n), .int (nI fr), .int x3, .int x4] m (fun r m' => r = none ∧ WT m' ∧ Fx (RS [22, 24, 28, 29, 31, 49]) m m' ∧ RdM (nE v) m' (rdsR lk sv v p n fr (g, H, 0, 0))) := by
  have hp2 := hp.2.1
  have w0 : WT (uI (uI m 187 32 (0 : Int32)) 187 33 (0 : Int32)) := (w.n rfl).n rfl
  have f0 : Fx (RS [22, 24, 28, 29, 31, 49]) m (uI (uI m 187 32 (0 : Int32)) 187 33 (0 : Int32)) := Fx.i (Fx.i Fx.rf rfl) rfl
  refine v_X12_goRounds (d := d + 170) ?_
  refine rdsM (d := d) (m0 := m) hp h3 h4 hn (by omega) (rdsR lk sv v p n fr (g, H, 0, 0)) hE hP (fun m1 w1 f1 R1 => ⟨rfl, w1, f1, R1⟩) n 0 (g, H, 0, 0) _ (by omega) w0 f0 ⟨h, ⟨U.1, fun j hj => (U.2 j hj).k (fun k _ _ => rfl)⟩, hl, rfl, rfl⟩ ?_
  rw [Nat.add_zero, Nat.mod_eq_of_lt hfr]
/-! the class -/
def RdC (m : Wm) (S : RSt) : Prop := HC 21 m S.1 ∧ UnC m S.2.1
theorem playNowC (w : WT m) (h : HC 21 m g) (U : UnC m H) (hE : EC m v) {a e : Nat} (ha : a < 8) (he : e < 8) (hae : a ≠ e) {th : Int32} (ht : th = 0 ∨ th = 1 ∨ th = 2 ∨ th = 3) :
    Ct ad μX11_playNow (d + 6) [.ref (ad 0), .int (nI a), .int (nI e), .int th] m (fun r m' => WT m' ∧ Fx (RS [2, 4, 6, 14, 53]) m m' ∧ r = some (.int (wonG true v a e th g)) ∧ HC 21 m' (goG true v a e th g) ∧ UnC m' ((g :: H).take 20)) := by
  have e44 : (4 : Int32).toNatClampNeg = 4 := rfl
  refine v_X11_playNow (d := d + 5) ((saveC (d := d + 3) w h U).to ?_)
  rintro _ m1 ⟨rfl, w1, f1, U1⟩
  have H1 := h.fx SS_21 f1 rfl
  have E1 := hE.fx f1 rfl
  have go : ∀ s0 : Int32, (s0 = 0 ↔ ¬ byG true v th) → AW ad E0 μX11_playNow (d + 6) (fun r m' => WT m' ∧ Fx (RS [2, 4, 6, 14, 53]) m m' ∧ r = some (.int (wonG true v a e th g)) ∧ HC 21 m' (goG true v a e th g) ∧ UnC m' ((g :: H).take 20)) 32 [(0, .ref (ad 0)), (1, .int (nI a)), (2, .int (nI e)), (3, .int th)] [.int s0] m1 := fun s0 hs => by
    refine AW.mono (playNow32 (d := d) w1 H1 E1 ha he hae ht hs) ?_
    rintro r m2 ⟨w2, f2, rfl, H2⟩
    exact ⟨w2, (Fx.tr (S := RS [2, 4, 6, 14, 53]) Fx.rf f1 (RS_sub rfl)).tr f2 (RS_sub rfl), rfl, H2, U1.fx f2 rfl rfl⟩
  rw [e44]
  have l4 := E1.2.2.2.2.1 4 (by decide)
  rw [l4]
  refine ⟨rfl, fun c => go 0 ⟨fun _ z => z.2.1 c, fun _ => rfl⟩, fun c => ⟨fun n0 => go 0 ⟨fun _ z => n0 z.2.2, fun _ => rfl⟩, fun q0 => go 1 ⟨fun z => absurd z (by decide), fun z => absurd ⟨rfl, c, q0⟩ z⟩⟩⟩
theorem PlnC.fx {S : List Nat} {m' : Wm} (h : PlnC m p) (f : Fx (RS S) m m') (e7 : S.elem 7 = false) (e54 : S.elem 54 = false) : PlnC m' p := by
  obtain ⟨P, Q, hR, h1, h2, h3, h4⟩ := h
  have hPQ := hR.2.2
  have r : ∀ b k, 133 < b → b < 146 → m'.1 b k = m.1 b k := fun b k a1 a2 => f.at (n7 e7 k a1 a2)
  exact ⟨P, Q, hR.fx f e54, (r P 5 (by omega) (by omega)).trans h1, (r P 6 (by omega) (by omega)).trans h2, fun j hj => ⟨(r _ j (by omega) (by omega)).trans (h3 j hj).1, (r _ j (by omega) (by omega)).trans (h3 j hj).2.1, (r _ j (by omega) (by omega)).trans (h3 j hj).2.2⟩, fun ρ hρ => (r _ ρ (by omega) (by omega)).trans (h4 ρ hρ)⟩
theorem PRF.pl {P Q : Nat} (h : PRF m P Q) : m.2.2 0 9 = some P ∧ Pl P ∧ (P = 134 ∨ P = 140) := by
  have := h.2.2
  have hP : P = 134 ∨ P = 140 := by omega
  exact ⟨h.1, Pl_of hP, hP⟩
/-- begin(): where round x begins, behind the last one of all games -/
theorem beginC {P : Nat} (hPl : Pl P) (h1 : m.1 P 5 = nI (rdP p)) (h2 : m.1 P 6 = nI (gmP p)) (h4 : ∀ ρ, ρ < rdP p → m.1 (P + 4) ρ = nI (snP p ρ)) (hr : rdP p ≤ 12) {x : Nat} (hx : x ≤ 12) : Ct ad μX3_begin d [.ref (ad P), .int (nI x)] m (fun r m' => m' = m ∧ r = some (.int (nI (if x < rdP p then snP p x else gmP p)))) := by
  refine v_X3_begin hPl ⟨fun c => absurd ((l_lt 0 0 rfl (by decide) (by omega)).mp c) (by omega), fun _ => ?_⟩
  rw [h1, h2, nI_clamp (by omega)]
  refine ⟨fun c => ⟨rfl, ?_⟩, fun c => ⟨nat_in (by omega) (by decide), rfl, ?_⟩⟩
  · have := (nI_leI (a := rdP p) (b := x) (by omega) (by omega)).mp c
    rw [if_neg (by omega)]
  · have hx2 : x < rdP p := Nat.lt_of_not_le (fun z => c ((nI_leI (a := rdP p) (b := x) (by omega) (by omega)).mpr z))
    rw [if_pos hx2, h4 x hx2]
theorem afterC {P : Nat} (hPl : Pl P) (h1 : m.1 P 5 = nI (rdP p)) (hr : rdP p ≤ 12) {x : Nat} (hx : x ≤ 12) : Ct ad μX3_after d [.ref (ad P), .int (nI x)] m (fun r m' => m' = m ∧ r = some (.int (nI (nxP p x)))) := by
  refine v_X3_after hPl ?_
  rw [h1, nI_1]
  unfold nxP
  refine ⟨fun c => ⟨rfl, ?_⟩, fun c => ⟨rfl, ?_⟩⟩
  · have := (nI_leI (a := rdP p) (b := x + 1) (by omega) (by omega)).mp c
    rw [if_neg (by omega)]
    rfl
  · have hx2 : x + 1 < rdP p := Nat.lt_of_not_le (fun z => c ((nI_leI (a := rdP p) (b := x + 1) (by omega) (by omega)).mpr z))
    rw [if_pos hx2]
def rcQ (m : Wm) (T : RSt) (fr : Nat) (m' : Wm) : Prop := WT m' ∧ Fx (RS [2, 4, 6, 14, 44, 53]) m m' ∧ RdC m' T ∧ m'.1 0 11 = nI fr
set_option maxHeartbeats 2000000 in
/-- a round of the class, from game j on -/
theorem roundC (hp : PlnOK v p) {x1 x4 : Int32} {ρ : Nat} (hρ : ρ < rdP p) {Q : Option Value → Wm → Prop} (T : RSt) (hE : EC m0 v) (hP : PlnC m0 p)
    (K : ∀ m1, rcQ m0 T (nxP p ρ) m1 → AW ad E0 μX11_rounds (d + 7) Q 30 [(0, .ref (ad 0)), (1, .int x1), (2, .int (nI T.2.2.2)), (3, .int (nI T.2.2.1)), (4, .int (x4 + (1 : Int32)))] [] m1) :
    ∀ (n j : Nat) (S : RSt) (m : Wm), j + n = enP p ρ → rcQ m0 S ρ m → T = runR true true v p n j S →
      AW ad E0 μX11_rounds (d + 7) Q 64 [(0, .ref (ad 0)), (1, .int x1), (2, .int (nI S.2.2.2)), (3, .int (nI S.2.2.1)), (4, .int x4), (5, .int (nI (enP p ρ))), (6, .int (nI j))] [] m := by
  intro n
  have hen := hp.en hρ
  obtain ⟨a1, a2, a3, a4, a5⟩ := hp
  induction n with
  | zero =>
    intro j S m hj R hT
    obtain ⟨w, f, ⟨R1, R2⟩, k11⟩ := R
    obtain ⟨P, Q', hR, p1, p2, p3, p4⟩ := hP.fx f rfl rfl
    obtain ⟨q1, q2, q3⟩ := hR.pl
    refine g_X11_rounds_64 (d := d + 6) ⟨fun _ => ⟨P, q1, q2, ?_⟩, fun c => absurd ((nI_leI (by omega) (by omega)).mpr (by omega)) c⟩
    rw [k11]
    refine (afterC (d := d + 6) (p := p) q2 p1 a2 (by omega)).to ?_
    rintro _ m2 ⟨eq, rfl⟩
    obtain rfl := eq.symm
    have hT' : T = S := hT
    rw [← hT']
    refine ⟨_, rfl, K _ ⟨w.n rfl, f.i rfl, ⟨?_, ?_⟩, u_eq⟩⟩
    · rw [hT']; exact R1.o (by omega)
    · rw [hT']; exact R2.fx (S := [44]) ((Fx.rf (m := m)).i rfl) rfl rfl
  | succ n ih =>
    intro j S m hj R hT
    obtain ⟨w, f, ⟨R1, R2⟩, k11⟩ := R
    obtain ⟨P, Q', hR, p1, p2, p3, p4⟩ := hP.fx f rfl rfl
    obtain ⟨q1, q2, q3⟩ := hR.pl
    obtain ⟨b1, b2, b3⟩ := p3 j (by omega)
    obtain ⟨c1, c2, c3, c4⟩ := a5 j (by omega)
    have E1 := hE.fx f rfl
    have n8 := E1.2.2.1
    refine g_X11_rounds_64 (d := d + 6) ⟨fun c => absurd ((nI_leI (by omega) (by omega)).mp c) (by omega), fun _ => ?_⟩
    refine ⟨P, q1, q2, nat_in (by omega) (by decide), P, q1, q2, nat_in (by omega) (by decide), P, q1, q2, nat_in (by omega) (by decide), ?_⟩
    rw [nI_clamp (by omega), b1, b2, b3]
    refine (playNowC (d := d) w R1 R2 E1 (by omega) (by omega) c3 c4).to ?_
    rintro _ m2 ⟨w2, f2, rfl, H2, U2⟩
    have f2' : Fx (RS [2, 4, 6, 14, 44, 53]) m0 m2 := f.tr f2 (RS_sub rfl)
    have k2 : m2.1 0 11 = nI ρ := (f2.at (nRS (ρ := 44) rfl rfl)).trans k11
    have go := ih (j + 1) (stepR true true v p j S) m2 (by omega) ⟨w2, f2', ⟨H2, U2⟩, k2⟩ hT
    refine ⟨_, rfl, fun q => ?_, fun q => ?_⟩
    · rw [nI_1, nI_1]
      have e : (stepR true true v p j S).2.2.1 = S.2.2.1 := if_neg q
      rw [e] at go
      exact go
    · rw [nI_1, nI_1, nI_1]
      have e : (stepR true true v p j S).2.2.1 = S.2.2.1 + 1 := if_pos q
      rw [e] at go
      exact go
def nxI (p : PLN) : Nat → Nat → Nat
  | 0, ρ => ρ
  | k + 1, ρ => nxI p k (nxP p ρ)
theorem nxI_m (hp : PlnOK v p) : ∀ (k x : Nat), nxI p k (x % rdP p) = (x + k) % rdP p := by
  intro k
  induction k with
  | zero => intro x; rfl
  | succ k ih =>
    intro x
    show nxI p k (nxP p (x % rdP p)) = _
    rw [← nxP_mod hp rfl, ih (x + 1), show x + 1 + k = x + (k + 1) by omega]
def rcF (m : Wm) (T : RSt) (fr : Nat) (r : Option Value) (m' : Wm) : Prop := r = some (.int (nI T.2.2.2)) ∧ WT m' ∧ Fx (RS [2, 4, 6, 9, 14, 44, 53]) m m' ∧ RdC m' T ∧ m'.1 0 11 = nI fr
set_option maxHeartbeats 1000000 in
theorem rdsC (hp : PlnOK v p) {n : Nat} (hn : n ≤ 200) (T : RSt) (fr' : Nat) (hE : EC m0 v) (hP : PlnC m0 p) :
    ∀ (k i ρ : Nat) (S : RSt) (m : Wm), i + k = n → ρ < rdP p → rcQ m0 S ρ m → T = rdsR true true v p k ρ S → fr' = nxI p k ρ →
      AW ad E0 μX11_rounds (d + 7) (rcF m0 T fr') 30 [(0, .ref (ad 0)), (1, .int (nI n)), (2, .int (nI S.2.2.2)), (3, .int (nI S.2.2.1)), (4, .int (nI i))] [] m := by
  intro k
  have hp2 := hp.2.1
  induction k with
  | zero =>
    intro i ρ S m hi hρ R hT hf
    have hT' : T = S := hT
    refine g_X11_rounds_30 (d := d + 6) ⟨fun _ => ?_, fun c => absurd ((nI_leI (by omega) (by omega)).mpr (by omega)) c⟩
    obtain ⟨w, f, ⟨R1, R2⟩, k11⟩ := R
    refine (s_X1_total (d := d + 4) w SS_21).to ?_
    rintro _ m1 ⟨w1, f1, v1, rfl⟩
    refine ⟨v1, rfl, (s_X11_tell_ w1).to ?_⟩
    rintro _ m2 ⟨w2, f2, rfl⟩
    refine ⟨rfl, ?_⟩
    rw [← hT'] at R1 R2 ⊢
    refine ⟨rfl, w2, ((Fx.tr (S := RS [2, 4, 6, 9, 14, 44, 53]) Fx.rf f (RS_sub rfl)).tr f1 (RS_sub rfl)).tr f2 (RS_sub rfl), ⟨(R1.fx SS_21 f1 rfl).fx SS_21 f2 rfl, (R2.fx f1 rfl rfl).fx f2 rfl rfl⟩, ?_⟩
    exact (f2.at (nRS (ρ := 44) rfl rfl)).trans ((f1.at (nRS (ρ := 44) rfl rfl)).trans (k11.trans (congrArg nI hf.symm)))
  | succ k ih =>
    intro i ρ S m hi hρ R hT hf
    have R0 := R
    obtain ⟨w, f, ⟨R1, R2⟩, k11⟩ := R
    obtain ⟨P, Q', hR, p1, p2, p3, p4⟩ := hP.fx f rfl rfl
    obtain ⟨q1, q2, q3⟩ := hR.pl
    have hen := hp.en hρ
    refine g_X11_rounds_30 (d := d + 6) ⟨fun c => absurd ((nI_leI (by omega) (by omega)).mp c) (by omega), fun _ => ⟨P, q1, q2, ?_⟩⟩
    rw [k11, nI_1]
    refine (beginC (d := d + 6) (p := p) q2 p1 p2 p4 hp2 (by omega)).to ?_
    rintro _ m2 ⟨eq, rfl⟩
    obtain rfl := eq.symm
    refine ⟨_, rfl, P, q1, q2, ?_⟩
    rw [k11]
    refine (beginC (d := d + 6) (p := p) q2 p1 p2 p4 hp2 (by omega)).to ?_
    rintro _ m2 ⟨eq, rfl⟩
    obtain rfl := eq.symm
    refine ⟨_, rfl, ?_⟩
    rw [if_pos hρ]
    have T1 := roundC (d := d) (x1 := nI n) (x4 := nI i) hp hρ (runR true true v p (enP p ρ - snP p ρ) (snP p ρ) S) hE hP (Q := rcF m0 T fr') (fun m1 R1 => by
      rw [nI_1]
      exact ih (i + 1) (nxP p ρ) _ m1 (by omega) (nxP_lt hp) R1 hT hf) (enP p ρ - snP p ρ) (snP p ρ) S m (by omega) R0 rfl
    exact T1
end RDN
/-! WHAT BOTH ASK: is it a side, an art, are there two unlike ones -/
def YN (P : Prop) (r : Option Value) : Prop := ∃ v : Int32, r = some (.int v) ∧ (v = 0 → ¬ P) ∧ (¬ v = 0 → P)
def InN (n : Nat) (x : Int32) : Prop := 0 ≤ x.toInt ∧ x.toInt < n
theorem InN.of {n : Nat} {x : Int32} (h : InN n x) : ∃ s, s < n ∧ x = nI s := by
  obtain ⟨j, hj, rfl⟩ := zn_of h.1
  have := h.2
  rw [nI_toInt hj] at this
  exact ⟨j, by omega, rfl⟩
theorem InN.nI {n s : Nat} (h : s < n) (hn : n ≤ 1000) : InN n (nI s) := by
  unfold InN
  rw [nI_toInt (by omega)]
  omega
def Two (n : Nat) (x y : Int32) : Prop := InN n x ∧ InN n y ∧ ¬ x = y
section ASK
variable {ad : Nat → Nat} {d n : Nat} {m : Wm} {x y : Int32}
theorem hasC (h : m.1 3 3 = nI n) (hn : n ≤ 8) : Ct ad μX1_has d [.ref (ad 3), .int x] m (fun r m' => m' = m ∧ YN (InN n x) r) := by
  have tn : (nI n).toInt = n := nI_toInt (by omega)
  refine v_X1_has ?_
  rw [h]
  refine ⟨fun c => ⟨rfl, 0, rfl, fun _ q => ?_, fun z => absurd rfl z⟩, fun c => ⟨fun c2 => ⟨rfl, 0, rfl, fun _ q => ?_, fun z => absurd rfl z⟩, fun c2 => ⟨rfl, 1, rfl, fun z => absurd z (by decide), fun _ => ⟨?_, ?_⟩⟩⟩⟩
  · have := y_ltr (n := 0) rfl c; have := q.1; omega
  · have := z_le c2; have := q.2; omega
  · have := y_nltr (n := 0) rfl c; omega
  · have := z_nle c2; omega
theorem knowsC (h : m.1 3 4 = nI n) (hn : n ≤ 8) : Ct ad μX1_knows d [.ref (ad 3), .int x] m (fun r m' => m' = m ∧ YN (InN n x) r) := by
  have tn : (nI n).toInt = n := nI_toInt (by omega)
  refine v_X1_knows ?_
  rw [h]
  refine ⟨fun c => ⟨rfl, 0, rfl, fun _ q => ?_, fun z => absurd rfl z⟩, fun c => ⟨fun c2 => ⟨rfl, 0, rfl, fun _ q => ?_, fun z => absurd rfl z⟩, fun c2 => ⟨rfl, 1, rfl, fun z => absurd z (by decide), fun _ => ⟨?_, ?_⟩⟩⟩⟩
  · have := y_ltr (n := 0) rfl c; have := q.1; omega
  · have := z_le c2; have := q.2; omega
  · have := y_nltr (n := 0) rfl c; omega
  · have := z_nle c2; omega
theorem meetC (h : m.1 3 3 = nI n) (hn : n ≤ 8) : Ct ad μX1_canMeet (d + 1) [.ref (ad 3), .int x, .int y] m (fun r m' => m' = m ∧ YN (Two n x y) r) := by
  refine v_X1_canMeet ((hasC (x := x) h hn).to ?_)
  rintro _ m1 ⟨eq, v1, rfl, a1, a2⟩
  obtain rfl := eq.symm
  refine ⟨v1, rfl, fun c => ⟨rfl, 0, rfl, fun _ q => a1 c q.1, fun z => absurd rfl z⟩, fun c => (hasC (x := y) h hn).to ?_⟩
  rintro _ m1 ⟨eq, v2, rfl, b1, b2⟩
  obtain rfl := eq.symm
  exact ⟨v2, rfl, fun c2 => ⟨rfl, 0, rfl, fun _ q => b1 c2 q.2.1, fun z => absurd rfl z⟩, fun c2 => ⟨fun q => ⟨rfl, 0, rfl, fun _ z => z.2.2 q, fun z => absurd rfl z⟩, fun q => ⟨rfl, 1, rfl, fun z => absurd z (by decide), fun _ => ⟨a2 c, b2 c2, q⟩⟩⟩⟩
theorem sideM (h : m.1 187 1 = nI n) (hn : n ≤ 8) : Ct ad μX12_isSide (d + 1) [.ref (ad 187), .int x] m (fun r m' => m' = m ∧ YN (InN n x) r) := by
  have tn : (nI n).toInt = n := nI_toInt (by omega)
  have t1 := ti_subc (x := nI n) (y := (1 : Int32)) (c := 1) rfl (by omega)
  have z0 : (0 : Int32).toInt = 0 := rfl
  refine (isSide_ok).to ?_
  rintro _ m' ⟨eq, rfl⟩
  rw [h]
  refine ⟨eq, _, rfl, fun c q => ?_, fun c => ?_⟩
  · have := (bz_if rfl).1 c
    exact this ⟨(fa_le _ _).mpr (by rw [z0]; exact q.1), (fa_le _ _).mpr (by have := q.2; omega)⟩
  · have c := (bz_if rfl).2 c
    have c1 := z_le c.1
    have c2 := z_le c.2
    exact ⟨by omega, by omega⟩
theorem knowM (h : m.1 187 0 = nI n) (hn : n ≤ 8) : Ct ad μX12_isArt (d + 1) [.ref (ad 187), .int x] m (fun r m' => m' = m ∧ YN (InN n x) r) := by
  have tn : (nI n).toInt = n := nI_toInt (by omega)
  have t1 := ti_subc (x := nI n) (y := (1 : Int32)) (c := 1) rfl (by omega)
  have z0 : (0 : Int32).toInt = 0 := rfl
  refine (isArt_ok).to ?_
  rintro _ m' ⟨eq, rfl⟩
  rw [h]
  refine ⟨eq, _, rfl, fun c q => ?_, fun c => ?_⟩
  · have := (bz_if rfl).1 c
    exact this ⟨(fa_le _ _).mpr (by rw [z0]; exact q.1), (fa_le _ _).mpr (by have := q.2; omega)⟩
  · have c := (bz_if rfl).2 c
    have c1 := z_le c.1
    have c2 := z_le c.2
    exact ⟨by omega, by omega⟩
theorem twoM (h : m.1 187 1 = nI n) (hn : n ≤ 8) : Ct ad μX12_areTwo (d + 2) [.ref (ad 187), .int x, .int y] m (fun r m' => m' = m ∧ YN (Two n x y) r) := by
  refine v_X12_areTwo (d := d + 1) ((sideM (d := d) (x := x) h hn).to ?_)
  rintro _ m1 ⟨eq, v1, rfl, a1, a2⟩
  obtain rfl := eq.symm
  refine ⟨v1, rfl, fun c => ⟨rfl, 0, rfl, fun _ q => a1 c q.1, fun z => absurd rfl z⟩, fun c => (sideM (d := d) (x := y) h hn).to ?_⟩
  rintro _ m1 ⟨eq, v2, rfl, b1, b2⟩
  obtain rfl := eq.symm
  exact ⟨v2, rfl, fun c2 => ⟨rfl, 0, rfl, fun _ q => b1 c2 q.2.1, fun z => absurd rfl z⟩, fun c2 => ⟨fun q => ⟨rfl, 0, rfl, fun _ z => z.2.2 q, fun z => absurd rfl z⟩, fun q => ⟨rfl, 1, rfl, fun z => absurd z (by decide), fun _ => ⟨a2 c, b2 c2, q⟩⟩⟩⟩
/-- a number from 0 to c -/
theorem inM {lo hi : Int32} {y2 y4 : Int64} (h2 : y2 = lo.toInt64) (h4 : y4 = hi.toInt64) : Ct ad μX12_in d [.long x.toInt64, .long y2, .long y4] m (fun r m' => m' = m ∧ YN (lo.toInt ≤ x.toInt ∧ x.toInt ≤ hi.toInt) r) := by
  refine (in_i h2 h4).to ?_
  rintro _ m' ⟨eq, rfl⟩
  refine ⟨eq, _, rfl, fun c q => (bz_if rfl).1 c ⟨(fa_le _ _).mpr q.1, (fa_le _ _).mpr q.2⟩, fun c => ?_⟩
  have c := (bz_if rfl).2 c
  exact ⟨z_le c.1, z_le c.2⟩
theorem thrM : Ct ad μX12_isThrown (d + 1) [.int x] m (fun r m' => m' = m ∧ YN (0 ≤ x.toInt ∧ x.toInt ≤ 3) r) := by
  refine v_X12_isThrown ((in_i (lo := 0) (hi := 3) rfl rfl).to ?_)
  rintro _ m' ⟨eq, rfl⟩
  have z0 : (0 : Int32).toInt = 0 := rfl
  have z3 : (3 : Int32).toInt = 3 := rfl
  refine ⟨_, rfl, bz_ite, eq, _, rfl, fun c q => (bz_if rfl).1 c ⟨(fa_le _ _).mpr (by omega), (fa_le _ _).mpr (by omega)⟩, fun c => ?_⟩
  have c := (bz_if rfl).2 c
  have := z_le c.1
  have := z_le c.2
  omega
theorem thr_of (h : 0 ≤ x.toInt ∧ x.toInt ≤ 3) : x = 0 ∨ x = 1 ∨ x = 2 ∨ x = 3 := by
  obtain ⟨j, hj, rfl⟩ := zn_of h.1
  have := h.2
  rw [nI_toInt hj] at this
  have : j = 0 ∨ j = 1 ∨ j = 2 ∨ j = 3 := by omega
  rcases this with rfl | rfl | rfl | rfl
  · exact Or.inl rfl
  · exact Or.inr (Or.inl rfl)
  · exact Or.inr (Or.inr (Or.inl rfl))
  · exact Or.inr (Or.inr (Or.inr rfl))
end ASK
/-! WHAT STANDS BETWEEN TWO CALLS: the league in full -/
/-- what is kept, on both sides -/
def KpG (m : Wm) (n : Nat) : Prop := ∀ i, i < 2 → m.1 (173 + 7 * i) 4 ≠ 0 → ∃ (g : GS) (il : Nat → Bool), HC (173 + 7 * i + 1) m g ∧ HL n 214 (71 * i) m g ∧ ZB n g ∧ (∀ s, s < 8 → bt (m.1 (173 + 7 * i) 2) s = il s) ∧ (∀ s, n ≤ s → il s = false) ∧ (∀ s, s < n → m.1 214 (71 * i + 57 + s) = if il s = true then 1 else 0) ∧ m.1 (173 + 7 * i) 3 = m.1 214 (71 * i + 70) ∧ 0 ≤ (m.1 (173 + 7 * i) 3).toInt ∧ (m.1 (173 + 7 * i) 3).toInt ≤ 12
def KGd (m : Wm) (g : GS) (v : EV) (H : List GS) : Prop := HC 21 m g ∧ HM (nE v) m g ∧ EC m v ∧ EM m v ∧ UnC m H ∧ UnM (nE v) m H ∧ ZB (nE v) g ∧ (∀ j, j < H.length → ZB (nE v) (gAt H j)) ∧ KpG m (nE v) ∧ NxR m
def KGc (m : Wm) (g : GS) (v : EV) (H : List GS) : Prop := HC 21 m g ∧ HM (nE v) m g ∧ EC m v ∧ EM m v ∧ UnC m H ∧ UnM (nE v) m H ∧ ZB (nE v) g ∧ (∀ j, j < H.length → ZB (nE v) (gAt H j)) ∧ KpG m (nE v)
def KG (m : Wm) : Prop := ∃ g v H, KGd m g v H
def KGL : List Nat := [1, 4, 6, 13, 23, 24, 25, 29, 40, 41, 42, 43, 44, 46, 47, 48, 49, 52, 53]
/-- without where the plan is -/
def KGN : List Nat := [1, 4, 6, 13, 23, 24, 29, 40, 41, 42, 43, 46, 47, 48, 49, 53]
section KGS
variable {ad : Nat → Nat} {d n : Nat} {m m' m1 m2 : Wm} {g : GS} {v : EV} {H : List GS} {S S1 S2 A B : List Nat}
theorem KpG.fx (h : KpG m n) (f : Fx (RS S) m m') (e13 : S.elem 13 = false) (e40 : S.elem 40 = false) : KpG m' n := fun i hi hz => by
  have r : ∀ b k, 173 ≤ b → b < 187 → m'.1 b k = m.1 b k := fun b k h1 h2 => f.at (nRS (ρ := 13) e13 (rg_13 k h1 h2))
  have q : ∀ k, m'.1 214 k = m.1 214 k := fun k => f.at (nRS (ρ := 40) e40 rfl)
  rw [r _ 4 (by omega) (by omega)] at hz
  obtain ⟨g, il, h1, h2, h3, h4, h4b, h4c, h5, h6⟩ := h i hi hz
  rw [r (173 + 7 * i) 3 (by omega) (by omega)]
  refine ⟨g, il, h1.fx (SS_i hi) f e13, h2.k (fun k _ _ => q k), h3, fun s hs => ?_, h4b, fun s hs => (q _).trans (h4c s hs), h5.trans (q _).symm, h6⟩
  rw [r (173 + 7 * i) 2 (by omega) (by omega)]
  exact h4 s hs
theorem KGc.fx (h : KGc m g v H) (f : Fx (RS S) m m') (e : (S.all fun x => !(KGN.elem x)) = true) : KGc m' g v H := by
  obtain ⟨h1, h2, h3, h4, h5, h6, h7, h8, h9⟩ := h
  have q : ∀ ρ, KGN.elem ρ = true → S.elem ρ = false := fun ρ hρ => all_ne e hρ
  have a1 : (S.all fun x => !(([1, 41, 42, 43] : List Nat).elem x)) = true := List.all_eq_true.mpr (fun x hx => by
    have := List.all_eq_true.mp e x hx
    cases c : ([1, 41, 42, 43] : List Nat).elem x with
    | false => rfl
    | true =>
      have hm := List.mem_of_elem_eq_true c
      have : x = 1 ∨ x = 41 ∨ x = 42 ∨ x = 43 := by simpa using hm
      rcases this with rfl | rfl | rfl | rfl <;> exact absurd this (by decide))
  have a2 : (S.all fun x => !(([23, 46, 47, 48] : List Nat).elem x)) = true := List.all_eq_true.mpr (fun x hx => by
    have := List.all_eq_true.mp e x hx
    cases c : ([23, 46, 47, 48] : List Nat).elem x with
    | false => rfl
    | true =>
      have hm := List.mem_of_elem_eq_true c
      have : x = 23 ∨ x = 46 ∨ x = 47 ∨ x = 48 := by simpa using hm
      rcases this with rfl | rfl | rfl | rfl <;> exact absurd this (by decide))
  exact ⟨h1.fx SS_21 f (q 4 rfl), h2.fx f (q 24 rfl) (q 49 rfl), h3.fx f a1, h4.fx f a2, h5.fx f (q 6 rfl) (q 53 rfl), h6.fx f (q 29 rfl), h7, h8, h9.fx f (q 13 rfl) (q 40 rfl)⟩
theorem KGd.of (h : KGc m g v H) (n : NxR m) : KGd m g v H := ⟨h.1, h.2.1, h.2.2.1, h.2.2.2.1, h.2.2.2.2.1, h.2.2.2.2.2.1, h.2.2.2.2.2.2.1, h.2.2.2.2.2.2.2.1, h.2.2.2.2.2.2.2.2, n⟩
theorem KGd.cc (h : KGd m g v H) : KGc m g v H := ⟨h.1, h.2.1, h.2.2.1, h.2.2.2.1, h.2.2.2.2.1, h.2.2.2.2.2.1, h.2.2.2.2.2.2.1, h.2.2.2.2.2.2.2.1, h.2.2.2.2.2.2.2.2.1⟩
theorem KGd.nx (h : KGd m g v H) : NxR m := h.2.2.2.2.2.2.2.2.2
theorem KGL_N {S : List Nat} (e : (S.all fun x => !(KGL.elem x)) = true) : (S.all fun x => !(KGN.elem x)) = true := List.all_eq_true.mpr (fun x hx => by
  have h1 := List.all_eq_true.mp e x hx
  cases c : KGN.elem x with
  | false => rfl
  | true =>
    have hm := List.mem_of_elem_eq_true c
    have hA : ∀ y ∈ KGN, y ∈ KGL := by decide
    rw [List.elem_eq_true_of_mem (hA x hm)] at h1
    exact absurd h1 (by decide))
theorem KGd.fx (h : KGd m g v H) (f : Fx (RS S) m m') (e : (S.all fun x => !(KGL.elem x)) = true) : KGd m' g v H := KGd.of (h.cc.fx f (KGL_N e)) (h.nx.fx f (all_ne e (ρ := 44) rfl) (all_ne e (ρ := 52) rfl) (all_ne e (ρ := 25) rfl))
theorem KG.fx (h : KG m) (f : Fx (RS S) m m') (e : (S.all fun x => !(KGL.elem x)) = true) : KG m' := by
  obtain ⟨g, v, H, h⟩ := h
  exact ⟨g, v, H, h.fx f e⟩
theorem KG.tr (a : (A.all fun x => !(KGL.elem x)) = true) (b : (B.all fun x => !(KGL.elem x)) = true) : TR A B KG KG := fun f1 f2 k => (k.fx f1 a).fx f2 b
theorem KG.trn (a : (A.all fun x => !(KGN.elem x)) = true) (b : (B.all fun x => !(KGN.elem x)) = true) : TRN A B KG KG := fun {m m1 m2} f1 f2 hn k => by
  obtain ⟨g, v, H, h⟩ := k
  exact ⟨g, v, H, KGd.of ((h.cc.fx f1 a).fx f2 b) (hn h.nx)⟩
end KGS
/-! CALLS: skill, odds, game, play, undo, seed -/
theorem upd_at {f : Nat → Int32} {i k : Nat} {x : Int32} : upd f i x k = if k = i then x else f k := rfl
section ZBG
variable {v : EV} {g : GS} {n a e f t : Nat}
theorem ZB.tch {cn : Bool} (h : ZB n g) (hf : f < n) (ht : t < n) (ha : aE v ≤ 4) : ZB n (tchG cn v f t g) := by
  unfold tchG
  by_cases c : artG g.1 f t (aE v) = -1
  · rw [if_pos c]; exact h
  · rw [if_neg c]
    rcases artG_of (s := g.1) (f := f) (t := t) (n := aE v) with q | ⟨j, hj, q⟩
    · exact absurd q c
    rw [q, nI_clamp (by omega)]
    intro k h1 h2
    show upd (upd g.1 (4 * t + j) _) (4 * f + j) _ k = 0
    rw [upd_at, if_neg (by omega), upd_at, if_neg (by omega)]
    exact h k h1 h2
theorem ZB.stl {cn : Bool} {won : Int32} (h : ZB n g) (ha : a < n) (he : e < n) (hr : aE v ≤ 4) : ZB n (stlG cn v a e won g) := by
  have hp : ZB n (if cn = true then ptG a e won g else g) := by
    by_cases c : cn = true
    · rw [if_pos c]; exact h
    · rw [if_neg c]; exact h
  unfold stlG
  by_cases c2 : won = 2
  · rw [if_pos c2]; exact hp
  · rw [if_neg c2]
    generalize (if cn = true then ptG a e won g else g) = g1 at hp
    have hw : (if won = 0 then a else e) < n := by split <;> assumption
    have hl : (if won = 0 then e else a) < n := by split <;> assumption
    have h1 : ZB n (stl1 cn v (if won = 0 then a else e) (if won = 0 then e else a) g1) := by
      unfold stl1
      by_cases c : lE v 0 = 0 ∨ lE v 0 = 2
      · rw [if_pos c]; exact hp.tch hw hl hr
      · rw [if_neg c]; exact hp
    unfold stl2
    by_cases c : lE v 0 = 1 ∨ lE v 0 = 2
    · rw [if_pos c]; exact h1.tch hl hw hr
    · rw [if_neg c]; exact h1
theorem ZB.of {g' : GS} (h : ZB n g) (e : g'.1 = g.1) : ZB n g' := fun k h1 h2 => (congrFun e k).trans (h k h1 h2)
theorem ZB.go {lk : Bool} {th : Int32} (h : ZB n g) (ha : a < n) (he : e < n) (hr : aE v ≤ 4) : ZB n (goG lk v a e th g) := by
  unfold goG
  refine ZB.stl ?_ ha he hr
  have e1 : ∀ g' : GS, (thG th a e g').1 = g'.1 := fun g' => by
    unfold thG
    dsimp only
  have e2 : (drwG lk v th g).1 = g.1 := by
    unfold drwG
    by_cases c : byG lk v th
    · rw [if_pos c]
    · rw [if_neg c]
  exact ZB.of h ((e1 _).trans e2)
theorem ZB.take {H : List GS} (h : ZB n g) (hH : ∀ j, j < H.length → ZB n (gAt H j)) : ∀ j, j < ((g :: H).take 20).length → ZB n (gAt ((g :: H).take 20) j) := by
  intro j hj
  rw [List.length_take, List.length_cons] at hj
  rw [gAt_take _ _ _ (by omega)]
  cases j with
  | zero => exact h
  | succ j => exact hH j (by omega)
end ZBG
section OPG
variable {ad : Nat → Nat} {d : Nat} {m : Wm} {g : GS} {v : EV} {H : List GS}
theorem og_skill (c : Nat) (a b : Int32) : Both ad d μX11_skill μX12_skill [.int a, .int b] (InvK (KX KG c)) (InvK (KX KG (c + 1))) := fun m I => by
  obtain ⟨w, I1, ⟨g, v, H, kd⟩, kb⟩ := I
  have kd0 := kd
  obtain ⟨hc, hm, ec, em, -⟩ := kd0
  have n8 := ec.2.2.1
  have a4 := ec.2.2.2.1
  have f0 : Fx (RS [20]) m (uI m 187 17 0) := Fx.rf.i rfl
  have J : InvK (KX KG (c + 1)) (uI m 187 17 0) := ⟨w.n rfl, I1.f2 (Fx.rf (S := RS [])) f0 rfl rfl, ⟨g, v, H, kd.fx f0 rfl⟩, KB.fd c (Fx.rf (S := RS [])) f0 kb rfl rfl⟩
  have hm0 : HM (nE v) (uI m 187 17 0) g := hm
  have e1 : (uI m 187 17 0).1 187 1 = nI (nE v) := em.1
  have e0 : (uI m 187 17 0).1 187 0 = nI (aE v) := em.2.1
  by_cases P : InN (nE v) a ∧ InN (aE v) b
  · obtain ⟨s, hs, rfl⟩ := P.1.of
    obtain ⟨k, hk, rfl⟩ := P.2.of
    refine v_X11_skill (d := d + 299) ((hasC ec.1 n8).to ?_)
    rintro _ m1 ⟨eq, v1, rfl, y1, y2⟩
    obtain rfl := eq.symm
    refine ⟨v1, rfl, fun z => absurd P.1 (y1 z), fun _ => (knowsC ec.2.1 (by omega)).to ?_⟩
    rintro _ m1 ⟨eq, v2, rfl, y3, y4⟩
    obtain rfl := eq.symm
    refine ⟨v2, rfl, fun z => absurd P.2 (y3 z), fun _ => (skillC SS_21 hc (by omega) (by omega)).to ?_⟩
    rintro _ m1 ⟨eq, rfl⟩
    obtain rfl := eq.symm
    refine ⟨_, rfl, _, rfl, v_X12_skill (d := d + 299) ((sideM (d := d + 298) e1 n8).to ?_)⟩
    rintro _ m1 ⟨eq, v3, rfl, z1, z2⟩
    obtain rfl := eq.symm
    refine ⟨v3, rfl, fun z => absurd P.1 (z1 z), fun _ => (knowM (d := d + 298) e0 (by omega)).to ?_⟩
    rintro _ m1 ⟨eq, v4, rfl, z3, z4⟩
    obtain rfl := eq.symm
    refine ⟨v4, rfl, fun z => absurd P.2 (z3 z), fun _ => ?_⟩
    rw [m_ix, nI_clamp (by omega), hm0.1 (4 * s + k) (by omega)]
    exact ⟨nat_in (by omega) (by decide), rfl, J⟩
  · have hM : Ct ad μX12_skill (d + 300) [.ref (ad 187), .int a, .int b] m (fun r m2 => r = some (.int (-1)) ∧ InvK (KX KG (c + 1)) m2) := by
      refine v_X12_skill (d := d + 299) ((sideM (d := d + 298) e1 n8).to ?_)
      rintro _ m1 ⟨eq, v3, rfl, z1, z2⟩
      obtain rfl := eq.symm
      refine ⟨v3, rfl, fun _ => ⟨rfl, J⟩, fun q => (knowM (d := d + 298) e0 (by omega)).to ?_⟩
      rintro _ m1 ⟨eq, v4, rfl, z3, z4⟩
      obtain rfl := eq.symm
      exact ⟨v4, rfl, fun _ => ⟨rfl, J⟩, fun q2 => absurd ⟨z2 q, z4 q2⟩ P⟩
    refine v_X11_skill (d := d + 299) ((hasC ec.1 n8).to ?_)
    rintro _ m1 ⟨eq, v1, rfl, y1, y2⟩
    obtain rfl := eq.symm
    refine ⟨v1, rfl, fun z => ⟨_, rfl, hM⟩, fun q => (knowsC ec.2.1 (by omega)).to ?_⟩
    rintro _ m1 ⟨eq, v2, rfl, y3, y4⟩
    obtain rfl := eq.symm
    exact ⟨v2, rfl, fun z => ⟨_, rfl, hM⟩, fun q2 => absurd ⟨y2 q, y4 q2⟩ P⟩
theorem og_odds (c : Nat) (a b : Int32) : Both ad d μX11_odds μX12_odds [.int a, .int b] (InvK (KX KG c)) (InvK (KX KG (c + 1))) := fun m I => by
  obtain ⟨w, I1, ⟨g, v, H, kd⟩, kb⟩ := I
  have kd0 := kd
  obtain ⟨hc, hm, ec, em, -⟩ := kd0
  have n8 := ec.2.2.1
  by_cases P : Two (nE v) a b
  · obtain ⟨s, hs, rfl⟩ := P.1.of
    obtain ⟨t, ht, rfl⟩ := P.2.1.of
    refine v_X11_odds (d := d + 299) ((meetC (d := d + 298) ec.1 n8).to ?_)
    rintro _ m1 ⟨eq, v1, rfl, y1, y2⟩
    obtain rfl := eq.symm
    refine ⟨v1, rfl, fun z => absurd P (y1 z), fun _ => (chanceC (d := d + 295) SS_21 (Or.inr (Or.inl rfl)) w hc ec (by omega) (by omega)).to ?_⟩
    rintro _ m1 ⟨w1, f1, rfl⟩
    have f0 : Fx (RS [20]) m1 (uI m1 187 17 0) := Fx.rf.i rfl
    have f01 : Fx (RS [14]) m m1 := f1
    have hm0 : HM (nE v) (uI m1 187 17 0) g := by
      have h := hm.fx f1 rfl rfl
      exact h
    have em0 : EM (uI m1 187 17 0) v := (em.fx f1 rfl).fx f0 rfl
    refine ⟨_, rfl, _, rfl, v_X12_odds (d := d + 299) ((twoM (d := d + 297) em0.1 n8).to ?_)⟩
    rintro _ m2 ⟨eq, v3, rfl, z1, z2⟩
    obtain rfl := eq.symm
    refine ⟨v3, rfl, fun z => absurd P (z1 z), fun _ => (chanceM (d := d + 130) (w1.n rfl) hm0 em0 hs ht).to ?_⟩
    rintro _ m2 ⟨w2, f2, rfl⟩
    have f2' : Fx (RS [20, 22, 28]) m1 m2 := (Fx.tr Fx.rf f0 (RS_sub rfl)).tr f2 (RS_sub rfl)
    exact ⟨_, rfl, rfl, w2, I1.f2 f1 f2' rfl rfl, ⟨g, v, H, (kd.fx f1 rfl).fx f2' rfl⟩, KB.fd c f1 f2' kb rfl rfl⟩
  · have f0 : Fx (RS [20]) m (uI m 187 17 0) := Fx.rf.i rfl
    have J : InvK (KX KG (c + 1)) (uI m 187 17 0) := ⟨w.n rfl, I1.f2 (Fx.rf (S := RS [])) f0 rfl rfl, ⟨g, v, H, kd.fx f0 rfl⟩, KB.fd c (Fx.rf (S := RS [])) f0 kb rfl rfl⟩
    have e1 : (uI m 187 17 0).1 187 1 = nI (nE v) := em.1
    refine v_X11_odds (d := d + 299) ((meetC (d := d + 298) ec.1 n8).to ?_)
    rintro _ m1 ⟨eq, v1, rfl, y1, y2⟩
    obtain rfl := eq.symm
    refine ⟨v1, rfl, fun z => ⟨_, rfl, v_X12_odds (d := d + 299) ((twoM (d := d + 297) e1 n8).to ?_)⟩, fun q => absurd (y2 q) P⟩
    rintro _ m2 ⟨eq, v3, rfl, z1, z2⟩
    obtain rfl := eq.symm
    exact ⟨v3, rfl, fun _ => ⟨rfl, J⟩, fun q => absurd (z2 q) P⟩
theorem og_seed (c : Nat) (a : Int32) : Both ad d μX11_seed μX12_seed [.int a] (InvK (KX KG c)) (InvK (KX KG (c + 1))) := fun m I => by
  obtain ⟨w, I1, ⟨g, v, H, kd⟩, kb⟩ := I
  obtain ⟨hc, hm, ec, em, uc, um, zb, zh, kp, nx⟩ := kd
  have f1 : Fx (RS [4]) m (uI m 21 4 a) := Fx.rf.i rfl
  have f2 : Fx (RS [20, 49]) (uI m 21 4 a) (uI (uI (uI m 21 4 a) 187 17 0) 187 8 a) := Fx.i (Fx.i Fx.rf rfl) rfl
  refine v_X11_seed ⟨_, rfl, v_X12_seed ?_⟩
  have e8 : (uI (uI m 21 4 a) 187 17 0).1 187 8 = g.2.2.2.2 := hm.2.2.2.2
  rw [e8, hc.2.2.2.2]
  refine ⟨rfl, (w.n rfl).n rfl |>.n rfl, I1.f2 f1 f2 rfl rfl, ⟨(g.1, g.2.1, g.2.2.1, g.2.2.2.1, a), v, H, hc.lu.fx SS_21 f2 rfl, ?_, (ec.fx f1 rfl).fx f2 rfl, (em.fx f1 rfl).fx f2 rfl, (uc.fx f1 rfl rfl).fx f2 rfl rfl, (um.fx f1 rfl).fx f2 rfl, zb, zh, (kp.fx f1 rfl rfl).fx f2 rfl rfl, (nx.fx f1 rfl rfl rfl).fx f2 rfl rfl rfl⟩, KB.fd c f1 f2 kb rfl rfl⟩
  exact ⟨hm.1, hm.2.1, hm.2.2.1, hm.2.2.2.1, u_eq⟩
theorem og_undo (c : Nat) : Both ad d μX11_undo μX12_undo [] (InvK (KX KG c)) (InvK (KX KG (c + 1))) := fun m I => by
  obtain ⟨w, I1, ⟨g, v, H, kd⟩, kb⟩ := I
  obtain ⟨hc, hm, ec, em, uc, um, zb, zh, kp, nx⟩ := kd
  have hl := uc.1
  have n8 := ec.2.2.1
  refine v_X11_undo (d := d + 299) ((backC (d := d + 297) w uc).to ?_)
  rintro _ m1 ⟨w1, f1, ⟨hH, rfl, e⟩ | ⟨g', H', hH, rfl, hc1, uc1⟩⟩
  · subst e
    refine ⟨0, rfl, fun _ => ⟨_, rfl, (undoM (d := d + 299) w hm n8 um hl).to ?_⟩, fun z => absurd rfl z⟩
    rintro _ m2 ⟨w2, f2, ⟨-, rfl, hm2, um2⟩ | ⟨g', H', hH', -⟩⟩
    · exact ⟨rfl, w2, I1.f2 (Fx.rf (S := RS [])) f2 rfl rfl, ⟨g, v, H, hc.fx SS_21 f2 rfl, hm2, ec.fx f2 rfl, em.fx f2 rfl, uc.fx f2 rfl rfl, um2, zb, zh, kp.fx f2 rfl rfl, nx.fx f2 rfl rfl rfl⟩, KB.fd c (Fx.rf (S := RS [])) f2 kb rfl rfl⟩
    · rw [hH] at hH'; cases hH'
  · refine ⟨1, rfl, fun z => absurd z (by decide), fun _ => ⟨_, rfl, (undoM (d := d + 299) w1 (hm.fx f1 rfl rfl) n8 (um.fx f1 rfl) hl).to ?_⟩⟩
    rintro _ m2 ⟨w2, f2, ⟨hH', -⟩ | ⟨g2, H2, hH', rfl, hm2, um2⟩⟩
    · rw [hH] at hH'; cases hH'
    · rw [hH] at hH'
      obtain ⟨rfl, rfl⟩ := List.cons.inj hH'
      have zH : ∀ j, j < H'.length + 1 → ZB (nE v) (gAt (g' :: H') j) := fun j hj => by rw [← hH]; exact zh j (by rw [hH, List.length_cons]; exact hj)
      exact ⟨congrArg (fun z => some (Value.int z)) uc1.2.1.symm, w2, I1.f2 f1 f2 rfl rfl, ⟨g', v, H', hc1.fx SS_21 f2 rfl, hm2, (ec.fx f1 rfl).fx f2 rfl, (em.fx f1 rfl).fx f2 rfl, uc1.fx f2 rfl rfl, um2, zH 0 (by omega), fun j hj => zH (j + 1) (by omega), (kp.fx f1 rfl rfl).fx f2 rfl rfl, (nx.fx f1 rfl rfl rfl).fx f2 rfl rfl rfl⟩, KB.fd c f1 f2 kb rfl rfl⟩
theorem og_play (c : Nat) (a b th : Int32) : Both ad d μX11_play μX12_play [.int a, .int b, .int th] (InvK (KX KG c)) (InvK (KX KG (c + 1))) := fun m I => by
  obtain ⟨w, I1, ⟨g, v, H, kd⟩, kb⟩ := I
  have kd0 := kd
  obtain ⟨hc, hm, ec, em, uc, um, zb, zh, kp, nx⟩ := kd0
  have n8 := ec.2.2.1
  have hl := uc.1
  have z3 : (3 : Int32).toInt = 3 := rfl
  have z0 : (0 : Int32).toInt = 0 := rfl
  by_cases P : Two (nE v) a b ∧ (0 ≤ th.toInt ∧ th.toInt ≤ 3)
  · obtain ⟨P1, P2⟩ := P
    have P0 := P1
    obtain ⟨s, hs, rfl⟩ := P1.1.of
    obtain ⟨t, ht, rfl⟩ := P1.2.1.of
    have hst : s ≠ t := fun q => P1.2.2 (by rw [q])
    have hth := thr_of P2
    refine v_X11_play (d := d + 299) ((meetC (d := d + 298) ec.1 n8).to ?_)
    rintro _ m1 ⟨eq, v1, rfl, y1, y2⟩
    obtain rfl := eq.symm
    refine ⟨v1, rfl, fun z => absurd P0 (y1 z), fun _ => ⟨fun q => absurd (y_ltr (n := 0) rfl q) (by omega), fun _ => ⟨fun _ => (playNowC (d := d + 293) w hc uc ec (by omega) (by omega) hst hth).to ?_, fun q => absurd (z_nle q) (by omega)⟩⟩⟩
    rintro _ m1 ⟨w1, f1, rfl, hc1, uc1⟩
    refine ⟨_, rfl, nat_in (by omega) (by decide), nat_in (by omega) (by decide), (s_X11_tell_ w1).to ?_⟩
    rintro _ m2 ⟨w2, f2, rfl⟩
    have f12 : Fx (RS [2, 4, 6, 9, 14, 53]) m m2 := (Fx.tr Fx.rf f1 (RS_sub rfl)).tr f2 (RS_sub rfl)
    have w3 : WT (uI m2 187 17 0) := w2.n rfl
    have hm3 : HM (nE v) (uI m2 187 17 0) g := by
      have h := hm.fx f12 rfl rfl
      exact h
    have em3 : EM (uI m2 187 17 0) v := by
      have h := em.fx f12 rfl
      exact h
    have um3 : UnM (nE v) (uI m2 187 17 0) H := ⟨(um.fx f12 rfl).1, fun j hj => ((um.fx f12 rfl).2 j hj).k (fun k _ _ => rfl)⟩
    have f03 : Fx (RS [20, 22, 24, 26, 28, 29, 49]) m2 (uI m2 187 17 0) := Fx.rf.i rfl
    refine ⟨rfl, _, rfl, v_X12_play (d := d + 299) ((twoM (d := d + 297) em3.1 n8).to ?_)⟩
    rintro _ m3 ⟨eq, v3, rfl, x1, x2⟩
    obtain rfl := eq.symm
    refine ⟨v3, rfl, fun z => absurd P0 (x1 z), fun _ => (thrM (d := d + 298)).to ?_⟩
    rintro _ m3 ⟨eq, v4, rfl, x3, x4⟩
    obtain rfl := eq.symm
    refine ⟨v4, rfl, fun _ => (rememberM (d := d + 298) w3 hm3 n8 um3 hl).to ?_, fun z => absurd P2 (x3 z)⟩
    rintro _ m4 ⟨rfl, w4, f4, um4⟩
    refine ⟨rfl, (goGameM (d := d + 129) (lk := true) w4 (hm3.fx f4 rfl rfl) (em3.fx f4 rfl) hs ht hst hth (by decide)).to ?_⟩
    rintro _ m5 ⟨w5, f5, rfl, hm5⟩
    have w6 : WT (uI m5 187 16 (0 : Int32)) := w5.t rfl (by decide) (by decide)
    refine ⟨_, rfl, nat_in (by omega) (by decide), (s_X12_tell w6 (by rw [u_eq]; decide)).to ?_⟩
    rintro _ m7 ⟨w7, f7, rfl, p7⟩
    have p7' : (m7.1 187 16).toInt = 0 + 1 := p7
    refine ⟨rfl, nat_in (by omega) (by decide), (s_X12_tell w7 (by omega)).to ?_⟩
    rintro _ m8 ⟨w8, f8, rfl, -⟩
    have f56 : Fx (RS [26]) m5 (uI m5 187 16 (0 : Int32)) := Fx.rf.i rfl
    have f68 : Fx (RS [26]) m5 m8 := (f56.tr f7 (RS_sub rfl)).tr f8 (RS_sub rfl)
    have F2 : Fx (RS [20, 22, 24, 26, 28, 29, 49]) m2 m8 := ((f03.tr f4 (RS_sub rfl)).tr f5 (RS_sub rfl)).tr f68 (RS_sub rfl)
    have a4 := ec.2.2.2.1
    exact ⟨rfl, rfl, w8, I1.f2 f12 F2 rfl rfl, ⟨goG true v s t th g, v, (g :: H).take 20, (hc1.fx SS_21 f2 rfl).fx SS_21 F2 rfl, hm5.fx f68 rfl rfl, (ec.fx f12 rfl).fx F2 rfl, (em.fx f12 rfl).fx F2 rfl, (uc1.fx f2 rfl rfl).fx F2 rfl rfl, (um4.fx f5 rfl).fx f68 rfl, zb.go hs ht a4, zb.take zh, (kp.fx f12 rfl rfl).fx F2 rfl rfl, (nx.fx f12 rfl rfl rfl).fx F2 rfl rfl rfl⟩, KB.fd c f12 F2 kb rfl rfl⟩
  · have f0 : Fx (RS [20]) m (uI m 187 17 0) := Fx.rf.i rfl
    have J : InvK (KX KG (c + 1)) (uI m 187 17 0) := ⟨w.n rfl, I1.f2 (Fx.rf (S := RS [])) f0 rfl rfl, ⟨g, v, H, kd.fx f0 rfl⟩, KB.fd c (Fx.rf (S := RS [])) f0 kb rfl rfl⟩
    have e1 : (uI m 187 17 0).1 187 1 = nI (nE v) := em.1
    have hM : Ct ad μX12_play (d + 300) [.ref (ad 187), .int a, .int b, .int th] m (fun r m2 => r = some (.int (-1)) ∧ InvK (KX KG (c + 1)) m2) := by
      refine v_X12_play (d := d + 299) ((twoM (d := d + 297) e1 n8).to ?_)
      rintro _ m2 ⟨eq, v3, rfl, x1, x2⟩
      obtain rfl := eq.symm
      refine ⟨v3, rfl, fun _ => ⟨rfl, J⟩, fun q => (thrM (d := d + 298)).to ?_⟩
      rintro _ m2 ⟨eq, v4, rfl, x3, x4⟩
      obtain rfl := eq.symm
      exact ⟨v4, rfl, fun q2 => absurd ⟨x2 q, x4 q2⟩ P, fun _ => ⟨rfl, J⟩⟩
    refine v_X11_play (d := d + 299) ((meetC (d := d + 298) ec.1 n8).to ?_)
    rintro _ m1 ⟨eq, v1, rfl, y1, y2⟩
    obtain rfl := eq.symm
    refine ⟨v1, rfl, fun z => ⟨_, rfl, hM⟩, fun q => ⟨fun _ => ⟨_, rfl, hM⟩, fun q2 => ⟨fun q3 => absurd ⟨y2 q, ?_⟩ P, fun _ => ⟨_, rfl, hM⟩⟩⟩⟩
    have := y_nltr (n := 0) rfl q2
    have := z_le q3
    omega
end OPG
/-! CALLS: rounds -/
section ZBR
variable {v : EV} {p : PLN} {lk sv : Bool} {n : Nat}
def ZR (n : Nat) (S : RSt) : Prop := ZB n S.1 ∧ ∀ j, j < S.2.1.length → ZB n (gAt S.2.1 j)
theorem ZR.run (hp : PlnOK v p) (ha : aE v ≤ 4) : ∀ (k j : Nat) (S : RSt), j + k ≤ gmP p → ZR (nE v) S → ZR (nE v) (runR lk sv v p k j S) := by
  intro k
  induction k with
  | zero => intro j S _ h; exact h
  | succ k ih =>
    intro j S hj h
    obtain ⟨c1, c2, c3, c4⟩ := hp.2.2.2.2 j (by omega)
    refine ih (j + 1) (stepR lk sv v p j S) (by omega) ⟨h.1.go c1 c2 ha, ?_⟩
    show ∀ i, i < (if sv = true then (S.1 :: S.2.1).take 20 else S.2.1).length → ZB (nE v) (gAt (if sv = true then (S.1 :: S.2.1).take 20 else S.2.1) i)
    by_cases q : sv = true
    · rw [if_pos q]; exact h.1.take h.2
    · rw [if_neg q]; exact h.2
theorem ZR.rds (hp : PlnOK v p) (ha : aE v ≤ 4) : ∀ (k ρ : Nat) (S : RSt), ρ < rdP p → ZR (nE v) S → ZR (nE v) (rdsR lk sv v p k ρ S) := by
  intro k
  induction k with
  | zero => intro ρ S _ h; exact h
  | succ k ih =>
    intro ρ S hρ h
    have he := hp.en hρ
    exact ih _ _ (nxP_lt hp) (ZR.run hp ha _ _ _ (by omega) h)
end ZBR
section OPR
variable {ad : Nat → Nat} {d : Nat} {m : Wm} {g : GS} {v : EV} {H : List GS}
/-- a plan of both sides as one that can be played -/
theorem pln_of (h : PlR m) (ec : EC m v) (h0 : m.1 187 11 ≠ 0) : ∃ p, PlnOK v p ∧ PlnC m p ∧ PlnM m p := by
  obtain ⟨P, Q, hR, n, R, gN, sn, x1, x2, x3, x4, x5, x6, x7, x8, x9, x10, x11, x12⟩ := h
  have hn : n = nE v := (nI_eq (a := n) (b := nE v) (by omega) (by have := ec.2.2.1; omega)).mp (x1.symm.trans ec.1)
  subst hn
  have hR0 : R ≠ 0 := fun z => h0 (by rw [x4, z]; rfl)
  have nn : ∀ x : Int32, 0 ≤ x.toInt → x.toInt < (nE v : Int) → x = nI x.toNatClampNeg ∧ x.toNatClampNeg < nE v := fun x a b => by
    obtain ⟨j, hj, rfl⟩ := zn_of a
    rw [nI_toInt hj] at b
    rw [nI_clamp hj]
    exact ⟨rfl, by omega⟩
  refine ⟨((fun j => (m.1 (P + 1) j).toNatClampNeg), (fun j => (m.1 (P + 2) j).toNatClampNeg), m.1 (P + 3), sn, R, gN), ⟨by show 1 ≤ R; omega, x7, x8, x11, fun j hj => ?_⟩, ⟨P, Q, hR, x3, x5, fun j hj => ?_, x12⟩, x4, x6, fun j hj => ?_⟩
  · obtain ⟨a1, a2, a3, a4, a5, a6, a7, -⟩ := x10 j hj
    have b1 := nn _ a4.1 a4.2
    have b2 := nn _ a5.1 a5.2
    refine ⟨b1.2, b2.2, fun z => a6 ?_, thr_of a7⟩
    have z' : (m.1 (P + 1) j).toNatClampNeg = (m.1 (P + 2) j).toNatClampNeg := z
    rw [b1.1, b2.1, z']
  · obtain ⟨a1, a2, a3, a4, a5, a6, a7, -⟩ := x10 j hj
    exact ⟨(nn _ a4.1 a4.2).1, (nn _ a5.1 a5.2).1, rfl⟩
  · obtain ⟨a1, a2, a3, a4, a5, a6, a7, ρ, r1, r2, r3, r4⟩ := x10 j hj
    refine ⟨a1.trans (nn _ a4.1 a4.2).1, a2.trans (nn _ a5.1 a5.2).1, a3, ρ, by show ρ < R; omega, r2, r3, ?_⟩
    show j < (if ρ + 1 < R then sn (ρ + 1) else gN)
    by_cases c : ρ + 1 < R
    · rw [if_pos c]; exact r4 (by omega)
    · rw [if_neg c]; exact hj
set_option maxHeartbeats 1000000 in
theorem og_rounds (c : Nat) (a : Int32) : Both ad d μX11_rounds μX12_rounds [.int a] (InvK (KX KG c)) (InvK (KX KG (c + 1))) := fun m I => by
  obtain ⟨w, I1, ⟨g, v, H, kd⟩, kb⟩ := I
  have kd0 := kd
  obtain ⟨hc, hm, ec, em, uc, um, zb, zh, kp, nx⟩ := kd0
  have nx0 := nx
  obtain ⟨nr, R, n1, n2, n3, n4, n5⟩ := nx0
  have n8 := ec.2.2.1
  have a4 := ec.2.2.2.1
  have hl := uc.1
  have z200 : (200 : Int32).toInt = 200 := rfl
  have z0 : (0 : Int32).toInt = 0 := rfl
  have kb0 := kb
  obtain ⟨pl, -, -⟩ := kb0
  have pl0 := pl
  obtain ⟨P, Q, hR, nn, R', gN, sn, x1, x2, x3, x4, -, -, x7, -⟩ := pl0
  obtain ⟨q1, q2', q3'⟩ := hR.pl
  have hRR : R' = R := (nI_eq (a := R') (b := R) (by omega) (by omega)).mp (x4.symm.trans n3)
  subst hRR
  by_cases hP : (0 ≤ a.toInt ∧ a.toInt ≤ 200) ∧ R' ≠ 0
  · obtain ⟨⟨b1, b2⟩, hR0⟩ := hP
    obtain ⟨n, hn, rfl⟩ := zn_of b1
    rw [nI_toInt hn] at b2
    have h110 : m.1 187 11 ≠ 0 := fun z => hR0 ((nI_eq (a := R') (b := 0) (by omega) (by omega)).mp (x4.symm.trans z))
    obtain ⟨p, hp, hpC, hpM⟩ := pln_of pl ec h110
    have hpR : rdP p = R' := (nI_eq (a := rdP p) (b := R') (by have := hp.2.1; omega) (by omega)).mp (hpM.1.symm.trans x4)
    have hnr : nr < rdP p := by have := hp.1; omega
    have ZT : ZR (nE v) (rdsR true true v p n nr (g, H, 0, 0)) := ZR.rds hp a4 n nr _ hnr ⟨zb, zh⟩
    have hfr : nxI p n nr = (nr + n) % rdP p := by
      have := nxI_m hp n nr
      rw [Nat.mod_eq_of_lt hnr] at this
      exact this
    generalize hT : rdsR true true v p n nr (g, H, 0, 0) = T at ZT
    have hC := rdsC (ad := ad) (d := d + 293) (m0 := m) hp (n := n) (by omega) T (nxI p n nr) ec hpC n 0 nr (g, H, 0, 0) m (by omega) hnr ⟨w, Fx.rf, ⟨hc, uc⟩, n1⟩ hT.symm rfl
    refine v_X11_rounds (d := d + 299) ⟨fun q => absurd (y_ltr (n := 0) rfl q) (by rw [nI_toInt hn]; omega), fun _ => ⟨fun q => absurd (y_ltl (n := 200) rfl q) (by rw [nI_toInt hn]; omega), fun _ => ⟨P, q1, q2', fun _ => ?_, fun q => absurd ((nI_eq (a := R') (b := 0) (by omega) (by omega)).mp (x3.symm.trans q)) hR0⟩⟩⟩
    refine AW.mono hC ?_
    rintro r m1 ⟨rfl, w1, f1, ⟨hc1, uc1⟩, k11⟩
    refine ⟨_, rfl, v_X12_rounds (d := d + 299) ((inM (x := nI n) (lo := 0) (hi := 200) rfl rfl).to ?_)⟩
    rintro _ m2 ⟨eq, v3, rfl, y1, y2⟩
    obtain rfl := eq.symm
    have w0 : WT (uI m1 187 17 0) := w1.n rfl
    have f0 : Fx (RS [20]) m1 (uI m1 187 17 0) := Fx.rf.i rfl
    have e11 : (uI m1 187 17 0).1 187 11 = nI R' := (f1.at (a := 187) (k := 11) (nRS (ρ := 25) rfl rfl)).trans x4
    have e12 : (uI m1 187 17 0).1 187 12 = nI nr := (f1.at (a := 187) (k := 12) (nRS (ρ := 52) rfl rfl)).trans n2
    have hin : (0 : Int32).toInt ≤ (nI n).toInt ∧ (nI n).toInt ≤ (200 : Int32).toInt := by rw [nI_toInt hn]; omega
    refine ⟨v3, rfl, fun z => absurd hin (y1 z), fun _ => ⟨fun _ => ?_, fun z => absurd ((nI_eq (a := R') (b := 0) (by omega) (by omega)).mp (e11.symm.trans z)) hR0⟩⟩
    rw [e12]
    have hm0 : HM (nE v) (uI m1 187 17 0) g := by
      have h := hm.fx f1 rfl rfl
      exact h
    have um0 : UnM (nE v) (uI m1 187 17 0) H := ⟨(um.fx f1 rfl).1, fun j hj => ((um.fx f1 rfl).2 j hj).k (fun k _ _ => rfl)⟩
    have em0 : EM (uI m1 187 17 0) v := by
      have h := em.fx f1 rfl
      exact h
    have hpM0 : PlnM (uI m1 187 17 0) p := (hpM.fx f1 rfl rfl).fx f0 rfl rfl
    refine (goRoundsM (d := d + 128) (lk := true) (sv := true) hp (by decide) (by decide) (by omega) hnr w0 hm0 um0 hl em0 hpM0).to ?_
    rw [hT]
    rintro _ m3 ⟨rfl, w3, f3, hm3, um3, l3, k33, k32⟩
    have e113 : m3.1 187 11 = nI R' := (f3.at (a := 187) (k := 11) (nRS (ρ := 25) rfl rfl)).trans e11
    have e123 : m3.1 187 12 = nI nr := (f3.at (a := 187) (k := 12) (nRS (ρ := 52) rfl rfl)).trans e12
    rw [e113, e123, nI_add, nI_rem (by omega) (by omega) (by omega)]
    refine ⟨rfl, fun z => absurd ((nI_eq (a := R') (b := 0) (by omega) (by omega)).mp z) hR0, ?_⟩
    have w4 : WT (uI (uI m3 187 12 (nI ((nr + n) % R'))) 187 16 (0 : Int32)) := (w3.n rfl).t rfl (by decide) (by decide)
    have f4 : Fx (RS [26, 52]) m3 (uI (uI m3 187 12 (nI ((nr + n) % R'))) 187 16 (0 : Int32)) := Fx.i (Fx.i Fx.rf rfl) rfl
    have k12 : (uI (uI m3 187 12 (nI ((nr + n) % R'))) 187 16 (0 : Int32)).1 187 12 = nI ((nr + n) % R') := (u_ne (by omega)).trans u_eq
    have k16 : (uI (uI m3 187 12 (nI ((nr + n) % R'))) 187 16 (0 : Int32)).1 187 16 = 0 := u_eq
    generalize uI (uI m3 187 12 (nI ((nr + n) % R'))) 187 16 (0 : Int32) = m4 at w4 f4 k12 k16 ⊢
    have z16 : (m4.1 187 16).toInt = 0 := by rw [k16]; rfl
    refine (s_X12_tell w4 (by omega)).to ?_
    rintro _ m5 ⟨w5, f5, rfl, p5⟩
    refine ⟨rfl, (s_X12_sumOfAll (d := d + 298) w5).to ?_⟩
    rintro _ m6 ⟨w6, f6, v6, rfl⟩
    have e616 : (m6.1 187 16).toInt = (m5.1 187 16).toInt := congrArg _ (f6.at (by decide))
    refine ⟨v6, rfl, (s_X12_tell w6 (by omega)).to ?_⟩
    rintro _ m7 ⟨w7, f7, rfl, -⟩
    have f47 : Fx (RS [26, 52]) m3 m7 := ((f4.tr f5 (RS_sub rfl)).tr f6 (RS_sub rfl)).tr f7 (RS_sub rfl)
    have F2 : Fx (RS [20, 22, 24, 26, 28, 29, 31, 49, 52]) m1 m7 := ((Fx.tr Fx.rf f0 (RS_sub rfl)).tr f3 (RS_sub rfl)).tr f47 (RS_sub rfl)
    have e732 : m7.1 187 32 = nI T.2.2.2 := (f47.at (nRS (ρ := 31) rfl rfl)).trans k32
    have e712 : m7.1 187 12 = nI ((nr + n) % R') := (f7.at (nRS (ρ := 52) rfl rfl)).trans ((f6.at (nRS (ρ := 52) rfl rfl)).trans ((f5.at (nRS (ρ := 52) rfl rfl)).trans k12))
    have e711 : m7.1 187 11 = nI R' := (f47.at (nRS (ρ := 25) rfl rfl)).trans e113
    have e011 : m7.1 0 11 = nI ((nr + n) % R') := (F2.at (nRS (ρ := 44) rfl rfl)).trans (k11.trans (by rw [hfr, hpR]))
    have hlt := Nat.mod_lt (nr + n) (show 0 < R' by omega)
    rw [e732]
    exact ⟨rfl, rfl, w7, I1.f2 f1 F2 rfl rfl, ⟨T.1, v, T.2.1, hc1.fx SS_21 F2 rfl, hm3.fx f47 rfl rfl, (ec.fx f1 rfl).fx F2 rfl, (em.fx f1 rfl).fx F2 rfl, uc1.fx F2 rfl rfl, um3.fx f47 rfl, ZT.1, ZT.2, (kp.fx f1 rfl rfl).fx F2 rfl rfl, ⟨(nr + n) % R', R', e011, e712, e711, n4, Or.inr hlt⟩⟩, KB.fd c f1 F2 kb rfl rfl⟩
  · have f0 : Fx (RS [20]) m (uI m 187 17 0) := Fx.rf.i rfl
    have J : InvK (KX KG (c + 1)) (uI m 187 17 0) := ⟨w.n rfl, I1.f2 (Fx.rf (S := RS [])) f0 rfl rfl, ⟨g, v, H, kd.fx f0 rfl⟩, KB.fd c (Fx.rf (S := RS [])) f0 kb rfl rfl⟩
    have e11 : (uI m 187 17 0).1 187 11 = nI R' := x4
    have hM : Ct ad μX12_rounds (d + 300) [.ref (ad 187), .int a] m (fun r m2 => r = some (.int (-1)) ∧ InvK (KX KG (c + 1)) m2) := by
      refine v_X12_rounds (d := d + 299) ((inM (x := a) (lo := 0) (hi := 200) rfl rfl).to ?_)
      rintro _ m2 ⟨eq, v3, rfl, y1, y2⟩
      obtain rfl := eq.symm
      refine ⟨v3, rfl, fun _ => ⟨rfl, J⟩, fun q => ⟨fun q2 => absurd ⟨?_, fun z => q2 (e11.trans (by rw [z]; rfl))⟩ hP, fun _ => ⟨rfl, J⟩⟩⟩
      have := y2 q
      omega
    refine v_X11_rounds (d := d + 299) ⟨fun q => ⟨_, rfl, hM⟩, fun q => ⟨fun _ => ⟨_, rfl, hM⟩, fun q2 => ⟨P, q1, q2', fun q3 => absurd ⟨⟨?_, ?_⟩, fun z => q3 (x3.trans (by rw [z]; rfl))⟩ hP, fun _ => ⟨_, rfl, hM⟩⟩⟩⟩
    · have := y_nltr (n := 0) rfl q; omega
    · have := y_nltl (n := 200) rfl q2; omega
end OPR
end
section
/-! CALLS: ill, swap, law -/
def setI (v : EV) (s : Nat) (b : Bool) : EV := (v.1, v.2.1, v.2.2.1, updB v.2.2.2.1 s b, v.2.2.2.2)
def setL (v : EV) (k : Nat) (x : Int32) : EV := (v.1, v.2.1, upd v.2.2.1 k x, v.2.2.2)
def swG (s t : Nat) : Nat → (Nat → Int32) → (Nat → Int32)
  | 0, f => f
  | k + 1, f => upd (upd (swG s t k f) (4 * s + k) (swG s t k f (4 * t + k))) (4 * t + k) (swG s t k f (4 * s + k))
theorem swG_s {s t k : Nat} {f : Nat → Int32} : swG s t (k + 1) f = upd (upd (swG s t k f) (4 * s + k) (swG s t k f (4 * t + k))) (4 * t + k) (swG s t k f (4 * s + k)) := rfl
theorem ZB.sw {n s t : Nat} {g : GS} (h : ZB n g) (hs : s < n) (ht : t < n) : ∀ k, k ≤ 4 → ZB n (swG s t k g.1, g.2) := by
  intro k
  induction k with
  | zero => intro _; exact h
  | succ k ih =>
    intro hk j h1 h2
    have := ih (by omega) j h1 h2
    show swG s t (k + 1) g.1 j = 0
    rw [swG_s, upd_at, if_neg (by omega), upd_at, if_neg (by omega)]
    exact this
section ISL
variable {ad : Nat → Nat} {d : Nat} {m : Wm} {g : GS} {v : EV} {H : List GS}
/-- nothing that counts has changed -/
theorem J17 {c : Nat} (I : InvK (KX KG c) m) : InvK (KX KG (c + 1)) (uI m 187 17 0) := by
  obtain ⟨w, I1, kg, kb⟩ := I
  have f0 : Fx (RS [20]) m (uI m 187 17 0) := Fx.rf.i rfl
  exact ⟨w.n rfl, I1.f2 (Fx.rf (S := RS [])) f0 rfl rfl, kg.fx f0 rfl, KB.fd c (Fx.rf (S := RS [])) f0 kb rfl rfl⟩
theorem UnC.none (h : UnC m H) : UnC (uI m 31 1 (0 : Int32)) [] := by
  obtain ⟨h1, h2, p, hp, h3, h4⟩ := h
  exact ⟨Nat.zero_le _, u_eq, p, hp, (u_ne (by omega)).trans h3, fun j hj => absurd hj (Nat.not_lt_zero j)⟩
theorem UnM.none {n : Nat} : UnM n (uI m 187 30 (0 : Int32)) [] := ⟨u_eq, fun j hj => absurd hj (Nat.not_lt_zero j)⟩
theorem ill_or {il : Nat → Bool} {s : Nat} (h : illC m il) (hs : s < 8) : ∀ j, j < 8 → bt (m.1 3 5 ||| ((1 : Int32) <<< (nI s &&& 31))) j = updB il s true j := fun j hj => by
  rw [b_or, bt_1shl (by omega) (by omega), h j hj]
  unfold updB
  by_cases q : j = s
  · rw [if_pos q, decide_eq_true q, Bool.or_true]
  · rw [if_neg q, decide_eq_false q, Bool.or_false]
theorem ill_and {il : Nat → Bool} {s : Nat} (h : illC m il) (hs : s < 8) : ∀ j, j < 8 → bt (m.1 3 5 &&& (((1 : Int32) <<< (nI s &&& 31)) ^^^ (-1 : Int32))) j = updB il s false j := fun j hj => by
  rw [b_and, b_xor, bt_1shl (by omega) (by omega), b_m1 j (by omega), h j hj]
  unfold updB
  by_cases q : j = s
  · rw [if_pos q, decide_eq_true q]; exact Bool.and_false _
  · rw [if_neg q, decide_eq_false q]; exact Bool.and_true _
theorem EC.il {s : Nat} {b : Bool} {x : Int32} (h : EC m v) (hs : s < nE v) (hb : ∀ j, j < 8 → bt x j = updB (iE v) s b j) : EC (uI m 3 5 x) (setI v s b) := by
  obtain ⟨h1, h2, h3, h4, h5, h6, h7⟩ := h
  have f : Fx (RS [42]) m (uI m 3 5 x) := Fx.rf.i rfl
  refine ⟨h1, h2, h3, h4, h5, ⟨fun j hj => ?_, fun j hj => ?_⟩, h7.fx f rfl⟩
  · show bt ((uI m 3 5 x).1 3 5) j = _
    rw [u_eq]
    exact hb j hj
  · have hj' : nE v ≤ j := hj
    show updB (iE v) s b j = false
    unfold updB
    rw [if_neg (by omega)]
    exact h6.2 j hj'
theorem EM.il {s : Nat} {b : Bool} (h : EM m v) (hs : s < nE v) : EM (uI m 189 s (if b = true then 1 else 0)) (setI v s b) := by
  obtain ⟨h1, h2, h3, h4, h5, h6, h7⟩ := h
  refine ⟨h1, h2, h3, h4, h5, fun j hj => ?_, h7⟩
  show (uI m 189 s (if b = true then 1 else 0)).1 189 j = if updB (iE v) s b j = true then 1 else 0
  unfold updB
  by_cases q : j = s
  · rw [show (if j = s then b else iE v j) = b from if_pos q, q, u_eq]
  · rw [show (if j = s then b else iE v j) = iE v j from if_neg q, u_ne (fun z => q z.2)]
    exact h6 j hj
theorem EC.lws {k : Nat} {x : Int32} (h : EC m v) : EC (uI m 4 k x) (setL v k x) := by
  obtain ⟨h1, h2, h3, h4, h5, h6, h7⟩ := h
  have f : Fx (RS [43]) m (uI m 4 k x) := Fx.rf.i rfl
  refine ⟨h1, h2, h3, h4, fun j hj => ?_, h6, h7.fx f rfl⟩
  rw [uI_row]
  exact upd_eq (h5 j hj)
set_option maxHeartbeats 1000000 in
theorem og_ill (c : Nat) (a b : Int32) (hb : b = 0 ∨ b = 1) : Both ad d μX11_ill μX12_ill [.int a, .int b] (InvK (KX KG c)) (InvK (KX KG (c + 1))) := fun m I => by
  have J := J17 I
  obtain ⟨w, I1, ⟨g, v, H, kd⟩, kb⟩ := I
  obtain ⟨hc, hm, ec, em, uc, um, zb, zh, kp, nx⟩ := kd
  have n8 := ec.2.2.1
  have hil := ec.2.2.2.2.2.1.1
  have e1 : (uI m 187 17 0).1 187 1 = nI (nE v) := em.1
  by_cases P : InN (nE v) a
  · have P0 := P
    obtain ⟨s, hs, rfl⟩ := P.of
    have vin : vp_in (nI s) 8 := nat_in (by omega) (by decide)
    have go : ∀ (x : Int32) (bb : Bool), (∀ j, j < 8 → bt x j = updB (iE v) s bb j) → vp_nar .boolean b = (if bb = true then 1 else 0) → Ct ad μX12_ill (d + 300) [.ref (ad 187), .int (nI s), .int b] (uI m 3 5 x) (fun r m2 => r = some (.int 1) ∧ InvK (KX KG (c + 1)) m2) := fun x bb hx hn => by
      have w1 : WT (uI m 3 5 x) := w.n rfl
      have f1 : Fx (RS [42]) m (uI m 3 5 x) := Fx.rf.i rfl
      have f0 : Fx (RS [20]) (uI m 3 5 x) (uI (uI m 3 5 x) 187 17 0) := Fx.rf.i rfl
      have e2 : (uI (uI m 3 5 x) 187 17 0).1 187 1 = nI (nE v) := em.1
      refine v_X12_ill (d := d + 299) ((sideM (d := d + 298) e2 n8).to ?_)
      rintro _ m1 ⟨eq, v3, rfl, z1, z2⟩
      obtain rfl := eq.symm
      refine ⟨v3, rfl, fun _ => ⟨vin, ?_⟩, fun z => absurd P0 (z1 z)⟩
      rw [nI_clamp (by omega), hn]
      have f2 : Fx (RS [20, 46]) (uI m 3 5 x) (uI (uI (uI m 3 5 x) 187 17 0) 189 s (if bb = true then 1 else 0)) := Fx.i (Fx.i Fx.rf rfl) rfl
      have ec1 : EC (uI m 3 5 x) (setI v s bb) := ec.il hs hx
      have em1 : EM (uI (uI m 3 5 x) 187 17 0) v := (em.fx f1 rfl).fx f0 rfl
      exact ⟨rfl, (w1.n rfl).n rfl, I1.f2 f1 f2 rfl rfl, ⟨g, setI v s bb, H, (hc.fx SS_21 f1 rfl).fx SS_21 f2 rfl, (hm.fx f1 rfl rfl).fx f2 rfl rfl, ec1.fx f2 rfl, em1.il hs, (uc.fx f1 rfl rfl).fx f2 rfl rfl, (um.fx f1 rfl).fx f2 rfl, zb, zh, (kp.fx f1 rfl rfl).fx f2 rfl rfl, (nx.fx f1 rfl rfl rfl).fx f2 rfl rfl rfl⟩, KB.fd c f1 f2 kb rfl rfl⟩
    refine v_X11_ill (d := d + 299) ((hasC ec.1 n8).to ?_)
    rintro _ m1 ⟨eq, v1, rfl, y1, y2⟩
    obtain rfl := eq.symm
    refine ⟨v1, rfl, fun _ => ⟨fun q => ⟨_, rfl, go _ false (ill_and hil (by omega)) ?_⟩, fun q => ⟨_, rfl, go _ true (ill_or hil (by omega)) ?_⟩⟩, fun z => absurd P0 (y1 z)⟩
    · rw [q]; rfl
    · rcases hb with z | z
      · exact absurd z q
      · rw [z]; rfl
  · have hM : Ct ad μX12_ill (d + 300) [.ref (ad 187), .int a, .int b] m (fun r m2 => r = some (.int 0) ∧ InvK (KX KG (c + 1)) m2) := by
      refine v_X12_ill (d := d + 299) ((sideM (d := d + 298) e1 n8).to ?_)
      rintro _ m1 ⟨eq, v3, rfl, z1, z2⟩
      obtain rfl := eq.symm
      exact ⟨v3, rfl, fun q => absurd (z2 q) P, fun _ => ⟨rfl, J⟩⟩
    refine v_X11_ill (d := d + 299) ((hasC ec.1 n8).to ?_)
    rintro _ m1 ⟨eq, v1, rfl, y1, y2⟩
    obtain rfl := eq.symm
    exact ⟨v1, rfl, fun q => absurd (y2 q) P, fun _ => ⟨_, rfl, hM⟩⟩
set_option maxHeartbeats 1000000 in
theorem og_swap (c : Nat) (a b : Int32) : Both ad d μX11_swap μX12_swap [.int a, .int b] (InvK (KX KG c)) (InvK (KX KG (c + 1))) := fun m I => by
  have J := J17 I
  obtain ⟨w, I1, ⟨g, v, H, kd⟩, kb⟩ := I
  obtain ⟨hc, hm, ec, em, uc, um, zb, zh, kp, nx⟩ := kd
  have n8 := ec.2.2.1
  have e1 : (uI m 187 17 0).1 187 1 = nI (nE v) := em.1
  by_cases P : Two (nE v) a b
  · have P0 := P
    obtain ⟨s, hs, rfl⟩ := P.1.of
    obtain ⟨t, ht, rfl⟩ := P.2.1.of
    have mod : ∀ m1, WT m1 → Fx (RS [4, 53]) m m1 → HC 21 m1 (swG s t 4 g.1, g.2) → UnC m1 [] → Ct ad μX12_swap (d + 300) [.ref (ad 187), .int (nI s), .int (nI t)] m1 (fun r m2 => r = some (.int 1) ∧ InvK (KX KG (c + 1)) m2) := fun m1 w1 f1 hc1 uc1 => by
      have w2 : WT (uI m1 187 17 0) := w1.n rfl
      have f2 : Fx (RS [20, 24, 29]) m1 (uI m1 187 17 0) := Fx.rf.i rfl
      have em1 := em.fx f1 rfl
      have e2 : (uI m1 187 17 0).1 187 1 = nI (nE v) := em1.1
      have hm2 : HM (nE v) (uI m1 187 17 0) g := by
        have h := hm.fx f1 rfl rfl
        exact h
      refine v_X12_swap (d := d + 299) ((twoM (d := d + 297) e2 n8).to ?_)
      rintro _ m2 ⟨eq, v3, rfl, x1, x2⟩
      obtain rfl := eq.symm
      refine ⟨v3, rfl, fun _ => ?_, fun z => absurd P0 (x1 z)⟩
      have L : ∀ (j k : Nat) (m3 : Wm), k + j = 4 → WT m3 → Fx (RS [20, 24, 29]) m1 m3 → HM (nE v) m3 (swG s t k g.1, g.2) → AW ad E0 μX12_swap (d + 299 + 1) (fun r m2 => r = some (.int 1) ∧ InvK (KX KG (c + 1)) m2) 18 [(0, .ref (ad 187)), (1, .int (nI s)), (2, .int (nI t)), (3, .int (nI k))] [] m3 := by
        intro j
        induction j with
        | zero =>
          intro k m3 hk w3 f3 h3
          obtain rfl : k = 4 := hk
          refine g_X12_swap_18 ⟨fun _ => ⟨rfl, ?_⟩, fun z => absurd ((le_l 4 4 rfl (by decide) (by omega)).mpr (Nat.le_refl _)) z⟩
          have f4 : Fx (RS [20, 24, 29]) m1 (uI m3 187 30 (0 : Int32)) := f3.i rfl
          exact ⟨w3.t rfl (by decide) (by decide), I1.f2 f1 f4 rfl rfl, ⟨(swG s t 4 g.1, g.2), v, [], hc1.fx SS_21 f4 rfl, h3, (ec.fx f1 rfl).fx f4 rfl, em1.fx f4 rfl, uc1.fx f4 rfl rfl, UnM.none, zb.sw hs ht 4 (Nat.le_refl _), fun j hj => absurd hj (Nat.not_lt_zero j), (kp.fx f1 rfl rfl).fx f4 rfl rfl, (nx.fx f1 rfl rfl rfl).fx f4 rfl rfl rfl⟩, KB.fd c f1 f4 kb rfl rfl⟩
        | succ j ih =>
          intro k m3 hk w3 f3 h3
          refine g_X12_swap_18 ⟨fun z => absurd ((le_l 4 4 rfl (by decide) (by omega)).mp z) (by omega), fun _ => ?_⟩
          rw [m_ix, m_ix, nI_1, nI_clamp (by omega), nI_clamp (by omega)]
          have i1 : m3.1 188 (4 * s + k) = swG s t k g.1 (4 * s + k) := h3.1 _ (by omega)
          have i2 : m3.1 188 (4 * t + k) = swG s t k g.1 (4 * t + k) := h3.1 _ (by omega)
          rw [i1, i2]
          have V1 : vp_in (nI (4 * s + k)) 32 := nat_in (by omega) (by decide)
          have V2 : vp_in (nI (4 * t + k)) 32 := nat_in (by omega) (by decide)
          exact ⟨V1, V2, V1, V2, ih (k + 1) _ (by omega) ((w3.n rfl).n rfl) ((f3.i rfl).i rfl) (h3.sk).sk⟩
      exact L 4 0 _ rfl w2 f2 hm2
    refine v_X11_swap (d := d + 299) ((meetC (d := d + 298) ec.1 n8).to ?_)
    rintro _ m1 ⟨eq, v1, rfl, y1, y2⟩
    obtain rfl := eq.symm
    refine ⟨v1, rfl, fun _ => ?_, fun z => absurd P0 (y1 z)⟩
    have L : ∀ (j k : Nat) (m3 : Wm), k + j = 4 → WT m3 → Fx (RS [4]) m m3 → HC 21 m3 (swG s t k g.1, g.2) → AW ad E0 μX11_swap (d + 299 + 1) (fun r m1 => ∃ v : Int32, r = some (.int v) ∧ Ct ad μX12_swap (d + 300) [.ref (ad 187), .int (nI s), .int (nI t)] m1 (fun r m2 => r = some (.int v) ∧ InvK (KX KG (c + 1)) m2)) 16 [(0, .ref (ad 0)), (1, .int (nI s)), (2, .int (nI t)), (3, .int (nI k))] [] m3 := by
      intro j
      induction j with
      | zero =>
        intro k m3 hk w3 f3 h3
        obtain rfl : k = 4 := hk
        have f4 : Fx (RS [4, 53]) m (uI m3 31 1 (0 : Int32)) := (Fx.tr Fx.rf f3 (RS_sub rfl)).i rfl
        exact g_X11_swap_16 ⟨fun _ => ⟨1, rfl, mod _ (w3.t rfl (by decide) (by decide)) f4 (h3.o (by omega)) (uc.fx f3 rfl rfl).none⟩, fun z => absurd ((le_l 4 4 rfl (by decide) (by omega)).mpr (Nat.le_refl _)) z⟩
      | succ j ih =>
        intro k m3 hk w3 f3 h3
        refine g_X11_swap_16 ⟨fun z => absurd ((le_l 4 4 rfl (by decide) (by omega)).mp z) (by omega), fun _ => (skillC (d := d + 299) (s := s) SS_21 h3 (a := k) (by omega) (by omega)).to ?_⟩
        rintro _ m4 ⟨eq, rfl⟩
        obtain rfl := eq.symm
        refine ⟨_, rfl, (skillC (d := d + 299) (s := t) SS_21 h3 (a := k) (by omega) (by omega)).to ?_⟩
        rintro _ m4 ⟨eq, rfl⟩
        obtain rfl := eq.symm
        refine ⟨_, rfl, (putC (d := d + 299) (s := s) SS_21 (a := k) (by omega) (by omega)).to ?_⟩
        rintro _ m4 ⟨rfl, rfl⟩
        refine ⟨rfl, (putC (d := d + 299) (s := t) SS_21 (a := k) (by omega) (by omega)).to ?_⟩
        rintro _ m5 ⟨rfl, rfl⟩
        rw [nI_1]
        exact ⟨rfl, ih (k + 1) _ (by omega) ((w3.n rfl).n rfl) ((f3.i rfl).i rfl) (h3.sk).sk⟩
    exact L 4 0 m rfl w Fx.rf hc
  · have hM : Ct ad μX12_swap (d + 300) [.ref (ad 187), .int a, .int b] m (fun r m2 => r = some (.int 0) ∧ InvK (KX KG (c + 1)) m2) := by
      refine v_X12_swap (d := d + 299) ((twoM (d := d + 297) e1 n8).to ?_)
      rintro _ m2 ⟨eq, v3, rfl, x1, x2⟩
      obtain rfl := eq.symm
      exact ⟨v3, rfl, fun q => absurd (x2 q) P, fun _ => ⟨rfl, J⟩⟩
    refine v_X11_swap (d := d + 299) ((meetC (d := d + 298) ec.1 n8).to ?_)
    rintro _ m1 ⟨eq, v1, rfl, y1, y2⟩
    obtain rfl := eq.symm
    exact ⟨v1, rfl, fun q => absurd (y2 q) P, fun _ => ⟨_, rfl, hM⟩⟩
theorem EM.lws {m2 : Wm} {ls : Nat → Int32} (h : EM m v) (f : Fx (RS [20, 47]) m m2) (hl : ∀ j, j < 5 → m2.1 193 j = ls j) : EM m2 (v.1, v.2.1, ls, v.2.2.2) := by
  obtain ⟨q1, q2, q3, q4, q5, q6, q7, q8, q9⟩ := h
  exact ⟨(f.at (nRS (ρ := 23) rfl rfl)).trans q1, (f.at (nRS (ρ := 23) rfl rfl)).trans q2, q3, q4, hl, fun s hs => (f.at (nRS (ρ := 46) rfl rfl)).trans (q6 s hs), (f.at (nRS (ρ := 48) rfl rfl)).trans q7, q8, fun j hj => (f.at (nRS (ρ := 48) rfl rfl)).trans (q9 j hj)⟩
theorem og_law (c : Nat) (a b : Int32) : Both ad d μX11_law μX12_law [.int a, .int b] (InvK (KX KG c)) (InvK (KX KG (c + 1))) := fun m I => by
  obtain ⟨w, I1, ⟨g, v, H, kd⟩, kb⟩ := I
  obtain ⟨hc, hm, ec, em, uc, um, zb, zh, kp, nx⟩ := kd
  obtain ⟨pl, lw, kq⟩ := kb
  refine (e_lawC (d := d + 299) w).to ?_
  rintro r m1 ⟨w1, ⟨hT, k, hk, hak, rfl, e⟩ | ⟨hT, rfl, e⟩⟩
  · have f1 : Fx (RS [43]) m m1 := by rw [e]; exact Fx.rf.i rfl
    have ec1 : EC m1 (setL v k b) := by rw [e]; exact ec.lws
    refine ⟨_, rfl, (e_lawM (d := d + 298) w1).to ?_⟩
    rintro r m2 ⟨w2, f2, ⟨-, k', hk', hak', rfl, h⟩ | ⟨hT2, -⟩⟩
    · have hkk : k' = k := ((nI_eq (a := k) (b := k') (by omega) (by omega)).mp (hak.symm.trans hak')).symm
      subst hkk
      have e193 : ∀ j, m1.1 193 j = m.1 193 j := fun j => f1.at (nRS (ρ := 47) rfl rfl)
      have em2 : EM m2 (setL v k' b) := (em.fx f1 rfl).lws f2 (fun j hj => by
        rw [h j, e193 j, upd_at]
        by_cases q : j = k'
        · rw [if_pos q, if_pos q]
        · rw [if_neg q, if_neg q]; exact em.2.2.2.2.1 j hj)
      refine ⟨by rw [e193 k', lw k' hk], w2, I1.f2 f1 f2 rfl rfl, ⟨g, setL v k' b, H, (hc.fx SS_21 f1 rfl).fx SS_21 f2 rfl, (hm.fx f1 rfl rfl).fx f2 rfl rfl, ec1.fx f2 rfl, em2, (uc.fx f1 rfl rfl).fx f2 rfl rfl, (um.fx f1 rfl).fx f2 rfl, zb, zh, (kp.fx f1 rfl rfl).fx f2 rfl rfl, (nx.fx f1 rfl rfl rfl).fx f2 rfl rfl rfl⟩, (pl.fx f1 rfl rfl rfl rfl rfl).fx f2 rfl rfl rfl rfl rfl, fun j hj => ?_, ((kq.fx f1 rfl rfl rfl).fx f2 rfl rfl rfl).up⟩
      rw [f2.at (a := 4) (k := j) (nRS (ρ := 43) rfl rfl), h j, e193 j, e]
      by_cases hj2 : j = k'
      · rw [hj2, if_pos rfl]; exact u_eq
      · rw [if_neg hj2]; exact (u_ne (fun q => hj2 q.2)).trans (lw j hj)
    · exact absurd hT hT2
  · subst e
    refine ⟨_, rfl, (e_lawM (d := d + 298) w1).to ?_⟩
    rintro r m2 ⟨w2, f2, ⟨hT2, -⟩ | ⟨-, rfl, h⟩⟩
    · exact absurd hT2 hT
    · have em2 : EM m2 v := em.lws f2 (fun j hj => (h j).trans (em.2.2.2.2.1 j hj))
      refine ⟨rfl, w2, I1.f2 (Fx.rf (S := RS [])) f2 rfl rfl, ⟨g, v, H, hc.fx SS_21 f2 rfl, hm.fx f2 rfl rfl, ec.fx f2 rfl, em2, uc.fx f2 rfl rfl, um.fx f2 rfl, zb, zh, kp.fx f2 rfl rfl, nx.fx f2 rfl rfl rfl⟩, pl.fx f2 rfl rfl rfl rfl rfl, fun j hj => ?_, (kq.fx f2 rfl rfl rfl).up⟩
      rw [f2.at (a := 4) (k := j) (nRS (ρ := 43) rfl rfl), h j]
      exact lw j hj
end ISL
/-! CALLS: sheet, league -/
def shtG (n a : Nat) (V : Nat → Int32) (g : GS) : GS := ((fun k => if k < 4 * n ∧ k % 4 = a then V (k / 4) else g.1 k), g.2)
def cutG (fr sd : Nat) (wp : Bool) (f : Nat → Int32) (s : Nat) : Int32 := if s < fr ∨ (wp = false ∧ sd ≤ s) then f s else 0
theorem all_sub {S L L' : List Nat} (e : (S.all fun x => !(L.elem x)) = true) (hA : ∀ y ∈ L', y ∈ L) : (S.all fun x => !(L'.elem x)) = true := List.all_eq_true.mpr (fun x hx => by
  have h1 := List.all_eq_true.mp e x hx
  cases c : L'.elem x with
  | false => rfl
  | true =>
    have hm := List.mem_of_elem_eq_true c
    rw [List.elem_eq_true_of_mem (hA x hm)] at h1
    exact absurd h1 (by decide))
theorem KG.kd : KD KG KG := by
  intro S1 S2 m m1 m2 f1 f2 k e1 e2
  exact (k.fx f1 (all_sub e1 (by decide))).fx f2 (all_sub e2 (by decide))
/-- what holds while a league is read: of the sides that stay, and behind the last -/
def lgJ (il0 : Nat → Bool) (sk0 : Nat → Int32) : LgSt → Prop
  | (st, _, _, sd, ar, fr, _, il, sk) => fr ≤ sd ∧ ar ≤ 4 ∧ (st = 2 → fr < sd) ∧ (∀ k, k < 4 * fr → sk k = sk0 k) ∧ (∀ t, t < fr → il t = il0 t) ∧ ∀ k, 4 * sd ≤ k → k < 32 → sk k = 0
theorem lst_I {il0 : Nat → Bool} {sk0 : Nat → Int32} {c : Int32} {st dg ln sd ar fr : Nat} {wp : Bool} {il : Nat → Bool} {sk : Nat → Int32} {L' : LgSt} (h : lst c st dg ln sd ar fr wp il sk = some L') (I : lgJ il0 sk0 (st, dg, ln, sd, ar, fr, wp, il, sk)) : lgJ il0 sk0 L' := by
  obtain ⟨i1, i2, i3, i4, i5, i6⟩ := I
  unfold lst at h
  by_cases c1 : c = 59 ∧ lEnd st dg ar
  · rw [if_pos c1] at h
    cases h
    exact ⟨i1, i2, fun z => absurd z (by decide), i4, i5, i6⟩
  rw [if_neg c1] at h
  by_cases s0 : st = 0
  · rw [if_pos s0] at h
    by_cases c2 : c = 119
    · rw [if_pos c2] at h
      cases h
      exact ⟨i1, i2, fun z => absurd z (by decide), i4, i5, i6⟩
    rw [if_neg c2] at h
    by_cases s8 : sd < 8
    · rw [if_pos s8] at h
      unfold lsk at h
      by_cases c3 : 0 ≤ (c - 48).toInt ∧ (c - 48).toInt ≤ 7
      · rw [if_pos c3] at h
        cases h
        refine ⟨by omega, i2, fun _ => by omega, fun k hk => ?_, fun t ht => ?_, fun k h1 h2 => ?_⟩
        · rw [upd_at, if_neg (by omega)]
          unfold clr4
          rw [if_neg (by omega)]
          exact i4 k hk
        · unfold updB
          rw [if_neg (by omega)]
          exact i5 t ht
        · rw [upd_at, if_neg (by omega)]
          unfold clr4
          rw [if_neg (by omega)]
          exact i6 k (by omega) h2
      · rw [if_neg c3] at h
        cases h
    · rw [if_neg s8] at h
      cases h
  rw [if_neg s0] at h
  by_cases s1 : st = 1
  · rw [if_pos s1] at h
    by_cases c3 : 1 ≤ (c - 48).toInt ∧ (c - 48).toInt ≤ 4
    · rw [if_pos c3] at h
      have q := tn (x := c - 48) (by omega)
      cases h
      exact ⟨Nat.le_refl _, by omega, fun z => absurd z (by decide), fun k hk => absurd hk (by omega), fun t ht => absurd ht (Nat.not_lt_zero t), fun _ _ _ => rfl⟩
    · rw [if_neg c3] at h
      cases h
  rw [if_neg s1] at h
  by_cases s2 : st = 2
  · rw [if_pos s2] at h
    have i3' := i3 s2
    by_cases d1 : dg < ar
    · rw [if_pos d1] at h
      unfold lsk at h
      by_cases c3 : 0 ≤ (c - 48).toInt ∧ (c - 48).toInt ≤ 7
      · rw [if_pos c3] at h
        cases h
        refine ⟨i1, i2, fun _ => i3', fun k hk => ?_, i5, fun k h1 h2 => ?_⟩
        · rw [upd_at, if_neg (by omega)]
          exact i4 k hk
        · rw [upd_at, if_neg (by omega)]
          exact i6 k h1 h2
      · rw [if_neg c3] at h
        cases h
    · rw [if_neg d1] at h
      by_cases c3 : c = 33
      · rw [if_pos c3] at h
        cases h
        refine ⟨i1, i2, fun z => absurd z (by decide), i4, fun t ht => ?_, i6⟩
        unfold updB
        rw [if_neg (by omega)]
        exact i5 t ht
      · rw [if_neg c3] at h
        cases h
  · rw [if_neg s2] at h
    cases h
theorem LO_I {il0 : Nat → Bool} {sk0 : Nat → Int32} {tx : Nat → Int32} {big : Bool} {L' : LgSt} : ∀ (k p : Nat) (L : LgSt), lgJ il0 sk0 L → LO tx big k p L = .inr L' → lgJ il0 sk0 L' := by
  intro k
  induction k with
  | zero =>
    intro p L hI h
    obtain ⟨st, dg, ln, sd, ar, fr, wp, il, sk⟩ := L
    by_cases c : big = false ∧ lEnd st dg ar
    · rw [LO_e c] at h
      cases h
      exact hI
    · rw [LO_n c] at h
      cases h
  | succ k ih =>
    intro p L hI h
    obtain ⟨st, dg, ln, sd, ar, fr, wp, il, sk⟩ := L
    cases hl : lst (tx p) st dg ln sd ar fr wp il sk with
    | none =>
      rw [LO_f hl] at h
      cases h
    | some L2 =>
      rw [LO_s hl] at h
      exact ih _ _ (lst_I hl hI) h
section SHL
variable {ad : Nat → Nat} {d : Nat} {m : Wm} {g : GS} {v : EV} {H : List GS}
theorem UnC.wt (w : WT m) (h : m.1 31 1 = 0) : UnC m [] := by
  obtain ⟨p, ep, -, -, p19, -⟩ := w.nat (a := 31) (k := 2) rfl (by decide)
  exact ⟨Nat.zero_le _, h, p, by omega, ep, fun j hj => absurd hj (Nat.not_lt_zero j)⟩
theorem UnM.wt {n : Nat} (h : m.1 187 30 = 0) : UnM n m [] := ⟨h, fun j hj => absurd hj (Nat.not_lt_zero j)⟩
set_option maxHeartbeats 1000000 in
theorem og_sheet (kq : Nat) (x1 x2 x3 x4 x5 : Int32) : Both ad d μX11_sheet μX12_sheet [.int x1, .int x2, .int x3, .int x4, .int x5] (InvK (KX KG kq)) (InvK (KX KG (kq + 1))) := fun m I => by
  obtain ⟨w, I1, ⟨g, v, H, kd⟩, kb⟩ := I
  have kd0 := kd
  obtain ⟨hc, hm, ec, em, uc, um, zb, zh, kp, nx⟩ := kd
  have n8 := ec.2.2.1
  have a4 := ec.2.2.2.1
  refine (e_sheetC (d := d + 299) w ec.1 n8 ec.2.1 a4).to ?_
  rintro r m1 ⟨⟨w1, f1, h⟩, hz, hs, hb⟩
  have k1 : m1.1 187 1 = nI (nE v) := (f1.at (a := 187) (k := 1) (nRS (ρ := 23) rfl rfl)).trans em.1
  have k0 : m1.1 187 0 = nI (aE v) := (f1.at (a := 187) (k := 0) (nRS (ρ := 23) rfl rfl)).trans em.2.1
  have hM := e_sheetM (ad := ad) (d := d + 298) (x1 := x1) (x2 := x2) (x3 := x3) (x4 := x4) (x5 := x5) w1 k1 n8 k0 a4
  by_cases G : shG (aE v) x1 x2 x3 ∧ (x2.toInt = 3 ∨ 0 ≤ x3.toInt)
  · have hC : r = some (.int (if x2 = 3 then -3 else shS (shV x2 x3 x4 x5) (nE v))) ∧ ∀ k, m1.1 22 k = if k < 4 * nE v ∧ k % 4 = x1.toNatClampNeg then shV x2 x3 x4 x5 (k / 4) else m.1 22 k := by
      rcases h with ⟨q, -⟩ | ⟨-, q1, q2, -⟩ | ⟨-, -, q1, q2⟩
      · exact absurd G.1 q
      · exact absurd G.2 (by omega)
      · exact ⟨q1, q2⟩
    refine ⟨_, hC.1, hM.to ?_⟩
    rintro r2 m2 ⟨⟨w2, f2, h2⟩, hz2, -, hb2⟩
    have hD : r2 = some (.int (if x2 = 3 then -3 else shS (shV x2 x3 x4 x5) (nE v))) ∧ ∀ k, m2.1 188 k = if k < 4 * nE v ∧ k % 4 = x1.toNatClampNeg then shV x2 x3 x4 x5 (k / 4) else m1.1 188 k := by
      rcases h2 with ⟨q, -⟩ | ⟨-, q1, q2, -⟩ | ⟨-, -, q1, q2⟩
      · exact absurd G.1 q
      · exact absurd G.2 (by omega)
      · exact ⟨q1, q2⟩
    have hc1 : HC 21 m1 (shtG (nE v) x1.toNatClampNeg (shV x2 x3 x4 x5) g) := by
      refine ⟨fun k hk => ?_, fun k hk => (hb 23 k (by decide) (by decide)).trans (hc.2.1 k hk), fun k hk => (hb 24 k (by decide) (by decide)).trans (hc.2.2.1 k hk), fun k hk => (hb 25 k (by decide) (by decide)).trans (hc.2.2.2.1 k hk), (hb 21 4 (by decide) (by decide)).trans hc.2.2.2.2⟩
      have e := hc.1 k hk
      have e1 := hC.2 k
      rw [show m.1 22 k = g.1 k from e] at e1
      exact e1
    have hm1 := hm.fx f1 rfl rfl
    have hm2 : HM (nE v) m2 (shtG (nE v) x1.toNatClampNeg (shV x2 x3 x4 x5) g) := by
      refine ⟨fun k hk => ?_, fun k hk => (hb2 190 k (by decide) (by decide)).trans (hm1.2.1 k hk), fun k hk => (hb2 191 k (by decide) (by decide)).trans (hm1.2.2.1 k hk), fun k hk => (hb2 192 k (by decide) (by decide)).trans (hm1.2.2.2.1 k hk), (f2.at (nRS (ρ := 49) rfl rfl)).trans hm1.2.2.2.2⟩
      have e1 := hD.2 k
      rw [hm1.1 k hk] at e1
      exact e1
    have zb2 : ZB (nE v) (shtG (nE v) x1.toNatClampNeg (shV x2 x3 x4 x5) g) := fun k h1 h2 => by
      show (if k < 4 * nE v ∧ k % 4 = x1.toNatClampNeg then shV x2 x3 x4 x5 (k / 4) else g.1 k) = 0
      rw [if_neg (by omega)]
      exact zb k h1 h2
    exact ⟨hD.1, w2, I1.f2 f1 f2 rfl rfl, ⟨_, v, [], hc1.fx SS_21 f2 rfl, hm2, (ec.fx f1 rfl).fx f2 rfl, (em.fx f1 rfl).fx f2 rfl, (UnC.wt w1 (hz G)).fx f2 rfl rfl, UnM.wt (hz2 G), zb2, fun j hj => absurd hj (Nat.not_lt_zero j), (kp.fx f1 rfl rfl).fx f2 rfl rfl, (nx.fx f1 rfl rfl rfl).fx f2 rfl rfl rfl⟩, KB.fd kq f1 f2 kb rfl rfl⟩
  · obtain rfl := (hs G).symm
    have J : ∀ m2, WT m2 → Fx (RS [20]) m m2 → InvK (KX KG (kq + 1)) m2 := fun m2 w2 f2 => ⟨w2, I1.f2 (Fx.rf (S := RS [])) f2 rfl rfl, ⟨g, v, H, kd0.fx f2 rfl⟩, KB.fd kq (Fx.rf (S := RS [])) f2 kb rfl rfl⟩
    rcases h with ⟨q, rfl, -⟩ | ⟨q0, q1, q2, rfl, -⟩ | ⟨q0, q1, -⟩
    · refine ⟨_, rfl, hM.to ?_⟩
      rintro r2 m2 ⟨⟨w2, -, h2⟩, -, f2, -⟩
      refine ⟨?_, J m2 w2 (f2 G)⟩
      rcases h2 with ⟨-, h2, -⟩ | ⟨h2, -⟩ | ⟨h2, -⟩
      · exact h2
      · exact absurd h2 q
      · exact absurd h2 q
    · refine ⟨_, rfl, hM.to ?_⟩
      rintro r2 m2 ⟨⟨w2, -, h2⟩, -, f2, -⟩
      refine ⟨?_, J m2 w2 (f2 G)⟩
      rcases h2 with ⟨h2, -⟩ | ⟨-, -, -, h2, -⟩ | ⟨-, h2, -⟩
      · exact absurd q0 h2
      · exact h2
      · exact absurd h2 (by omega)
    · exact absurd ⟨q0, q1⟩ G
end SHL
/-! CALLS: league -/
section LGG
variable {ad : Nat → Nat} {d : Nat} {m : Wm} {g : GS} {v : EV} {H : List GS}
set_option maxHeartbeats 1000000 in
/-- what stands behind a league that was taken -/
theorem KG.lg {m1 m2 : Wm} {st dg ln sd ar fr : Nat} {wp : Bool} {il : Nat → Bool} {sk : Nat → Int32} (kd : KGd m g v H) (w2 : WT m2) (f1 : Fx (RS [0, 3, 4, 7, 8, 13, 41, 42, 44, 53]) m m1) (f2 : Fx (RS [20, 21, 22, 23, 24, 25, 27, 29, 39, 45, 46, 52]) m1 m2) (hF : wp = false → fr = nE v) (V : lcV st dg sd ar fr wp) (L : lgC m True (st, dg, ln, sd, ar, fr, wp, il, sk) m1) (E : lgE m1 ln sd ar fr wp il sk m2) (hI : lgJ (iE v) g.1 (st, dg, ln, sd, ar, fr, wp, il, sk)) : KG m2 := by
  obtain ⟨hc, hm, ec, em, uc, um, zb, zh, kp, nx⟩ := kd
  obtain ⟨c1, c2, c3, c4, c5, c6, c7, c8, c9, c10⟩ := L
  obtain ⟨b1, b2, b3, b4, b5, b6, b7, b8, b9⟩ := E
  obtain ⟨V1, V2, V3, V4, V5, V6, V7⟩ := V
  obtain ⟨i1, i2, -, i4, i5, i6⟩ := hI
  have n8 := ec.2.2.1
  have hfn : fr ≤ nE v := by
    cases wp with
    | true => have := V7 rfl; omega
    | false => have := hF rfl; omega
  have cut : ∀ (j : Nat) (f : Nat → Int32), 2 ≤ j → j ≤ 4 → (∀ s, s < 8 → m.1 (21 + j) s = f s) → ∀ s, s < 8 → m1.1 (21 + j) s = cutG fr sd wp f s := fun j f h1 h2 hf s hs => by
    rw [c10 j s h1 h2 hs, hf s hs]
    rfl
  have cutI : ∀ (f : Nat → Int32) (s : Nat), s < fr → cutG fr sd wp f s = f s := fun f s hs => if_pos (Or.inl hs)
  have cutO : ∀ (f : Nat → Int32) (s : Nat), fr ≤ s → s < sd → cutG fr sd wp f s = 0 := fun f s h1 h2 => if_neg (fun q => q.elim (fun q => by omega) (fun q => by have := q.2; omega))
  have hc1 : HC 21 m1 (sk, cutG fr sd wp g.2.1, cutG fr sd wp g.2.2.1, cutG fr sd wp g.2.2.2.1, g.2.2.2.2) := ⟨c8, cut 2 _ (by decide) (by decide) hc.2.1, cut 3 _ (by decide) (by decide) hc.2.2.1, cut 4 _ (by decide) (by decide) hc.2.2.2.1, c9.trans hc.2.2.2.2⟩
  have hm1 := hm.fx f1 rfl rfl
  have hm2 : HM sd m2 (sk, cutG fr sd wp g.2.1, cutG fr sd wp g.2.2.1, cutG fr sd wp g.2.2.2.1, g.2.2.2.2) := by
    refine ⟨fun k hk => ?_, fun t ht => ?_, fun t ht => ?_, fun t ht => ?_, (f2.at (nRS (ρ := 49) rfl rfl)).trans hm1.2.2.2.2⟩
    · by_cases q : k < 4 * fr
      · exact (b7 k q).trans ((hm1.1 k (by omega)).trans (i4 k q).symm)
      · exact b6 k (by omega) hk
    · by_cases q : t < fr
      · exact (b9 t q).1.trans ((hm1.2.1 t (by omega)).trans (cutI _ t q).symm)
      · exact (b8 t (by omega) ht).1.trans (cutO _ t (by omega) ht).symm
    · by_cases q : t < fr
      · exact (b9 t q).2.1.trans ((hm1.2.2.1 t (by omega)).trans (cutI _ t q).symm)
      · exact (b8 t (by omega) ht).2.1.trans (cutO _ t (by omega) ht).symm
    · by_cases q : t < fr
      · exact (b9 t q).2.2.1.trans ((hm1.2.2.2.1 t (by omega)).trans (cutI _ t q).symm)
      · exact (b8 t (by omega) ht).2.2.1.trans (cutO _ t (by omega) ht).symm
  have e33 : m2.1 3 3 = nI sd := (f2.at (nRS (ρ := 41) rfl rfl)).trans c1
  have e34 : m2.1 3 4 = nI ar := (f2.at (nRS (ρ := 41) rfl rfl)).trans c2
  have ec2 : EC m2 (sd, ar, lE v, (fun s => decide (s < sd) && il s), tE v, zE v) := by
    refine ⟨e33, e34, V2, V4, fun k hk => (f2.at (nRS (ρ := 43) rfl rfl)).trans ((f1.at (nRS (ρ := 43) rfl rfl)).trans (ec.2.2.2.2.1 k hk)), ⟨fun s hs => ?_, fun s hs => ?_⟩, (ec.2.2.2.2.2.2.fx f1 rfl).fx f2 rfl⟩
    · rw [f2.at (a := 3) (k := 5) (nRS (ρ := 42) rfl rfl)]
      exact c7 trivial s hs
    · have hs' : sd ≤ s := hs
      show (decide (s < sd) && il s) = false
      rw [decide_eq_false (by omega)]
      rfl
  have em2 : EM m2 (sd, ar, lE v, (fun s => decide (s < sd) && il s), tE v, zE v) := by
    obtain ⟨q1, q2, q3, q4, q5, q6, q7, q8, q9⟩ := em
    refine ⟨b1, b2, V2, V4, fun k hk => (f2.at (nRS (ρ := 47) rfl rfl)).trans ((f1.at (nRS (ρ := 47) rfl rfl)).trans (q5 k hk)), fun s hs => ?_, (f2.at (nRS (ρ := 48) rfl rfl)).trans ((f1.at (nRS (ρ := 48) rfl rfl)).trans q7), q8, fun k hk => (f2.at (nRS (ρ := 48) rfl rfl)).trans ((f1.at (nRS (ρ := 48) rfl rfl)).trans (q9 k hk))⟩
    have hs' : s < sd := hs
    show m2.1 189 s = if (decide (s < sd) && il s) = true then 1 else 0
    rw [decide_eq_true hs', Bool.true_and]
    by_cases q : s < fr
    · rw [i5 s q]
      exact (b9 s q).2.2.2.trans ((f1.at (nRS (ρ := 46) rfl rfl)).trans (q6 s (by omega)))
    · exact (b8 s (by omega) hs').2.2.2
  have nx2 : NxR m2 := by
    cases wp with
    | true =>
      have b5' : m2.1 187 10 = 0 ∧ m2.1 187 11 = 0 ∧ m2.1 187 12 = 0 ∧ _ := b5
      have c6' : m1.1 0 11 = 0 ∧ _ := c6
      exact ⟨0, 0, (f2.at (nRS (ρ := 44) rfl rfl)).trans c6'.1, b5'.2.2.1, b5'.2.1, by decide, Or.inl rfl⟩
    | false =>
      obtain ⟨nr, R, n1, n2, n3, n4, n5⟩ := nx
      have b5' : m2.1 187 10 = m1.1 187 10 ∧ m2.1 187 11 = m1.1 187 11 ∧ m2.1 187 12 = m1.1 187 12 ∧ _ := b5
      have c6' : m1.1 0 11 = m.1 0 11 ∧ _ := c6
      exact ⟨nr, R, (f2.at (nRS (ρ := 44) rfl rfl)).trans (c6'.1.trans n1), b5'.2.2.1.trans ((f1.at (nRS (ρ := 52) rfl rfl)).trans n2), b5'.2.1.trans ((f1.at (nRS (ρ := 25) rfl rfl)).trans n3), n4, n5⟩
  exact ⟨_, (sd, ar, lE v, (fun s => decide (s < sd) && il s), tE v, zE v), [], hc1.fx SS_21 f2 rfl, hm2, ec2, em2, UnC.wt w2 ((f2.at (nRS (ρ := 53) rfl rfl)).trans c4), UnM.wt b3, i6, fun j hj => absurd hj (Nat.not_lt_zero j), fun i hi hz => absurd ((f2.at (nRS (ρ := 13) rfl (rg_13 4 (by omega) (by omega)))).trans (c5 i hi)) hz, nx2⟩
set_option maxHeartbeats 1000000 in
theorem og_league (kq : Nat) (hq : kq < 1000) : Both ad d μX11_league μX12_league [] (InvK (KX KG kq)) (InvK (KX KG (kq + 1))) := fun m I => by
  have IK := I
  obtain ⟨w, I0, ⟨g, v, H, kd⟩, kb⟩ := I
  have hK : KD (KX KG kq) (KX KG (kq + 1)) := KX.kd kq KG.kd
  have kK : KX KG kq m := ⟨⟨g, v, H, kd⟩, kb⟩
  have hc := kd.1
  have ec := kd.2.2.1
  have zb := kd.2.2.2.2.2.2.1
  have en := ec.1
  have n8 := ec.2.2.1
  have hil := ec.2.2.2.2.2.1
  have I1 := I0
  obtain ⟨h1, h2, h3, h4, h5⟩ := I0
  obtain ⟨a0, ea, -, a1, a4, -⟩ := w.nat (a := 187) (k := 0) rfl (by decide)
  obtain ⟨t, et, -, -, t80, -⟩ := w.nat (a := 1) (k := 1) rfl (by decide)
  have ht14 : m.1 187 14 = nI t := h2.1.symm.trans et
  have hsd : m.1 187 1 = nI (nE v) := h3.symm.trans en
  have har : m.1 3 4 = nI a0 := h4.trans ea
  by_cases ht0 : t = 0
  · subst ht0
    refine v_X11_league (d := d + 299) ⟨fun c => absurd et c, fun _ => ⟨0, rfl, (e_leagueM0 (d := d + 295) w ht14).to ?_⟩⟩
    rintro r m2 ⟨w2, f2, rfl, k14⟩
    have e11 : m2.1 1 1 = nI 0 := (f2.at (a := 1) (k := 1) (by decide)).trans et
    exact ⟨rfl, w2, ⟨h1.fx f2 rfl, TXI.zero (by rw [e11]; rfl) (by rw [k14]; rfl), IV.sd I1 (Fx.rf (S := RS [])) f2 rfl rfl⟩, hK (Fx.rf (S := RS [])) f2 kK rfl rfl⟩
  · refine (e_leagueC (d := d + 295) (HZ := True) (il0 := iE v) (sk0 := g.1) w en (by omega) har (by omega) (by omega) et (by omega) ht0 hc.1 (fun _ s hs => ?_)).to ?_
    · rw [hil.1 s hs]
      by_cases q : s < nE v
      · rw [decide_eq_true q, Bool.true_and]
      · rw [decide_eq_false q, hil.2 s (by omega)]
        rfl
    rintro r m1 ⟨w1, f1, g2, hq1, hL⟩
    have g195 : m1.1 195 = m.1 195 := funext fun k => f1.at (nRS (ρ := 21) rfl rfl)
    have eO : LO (m.1 2) (decide (76 < t)) (minT t 76) 0 (0, 0, 0, nE v, a0, nE v, false, iE v, g.1) = LO (m1.1 195) (decide (76 < t)) (minT t 76) 0 (0, 0, 0, nE v, a0, nE v, false, iE v, g.1) := by
      rw [g195]
      refine LO_ch (fun j hj => h2.2 j ?_)
      have : minT t 76 ≤ t := by unfold minT; split <;> omega
      rw [et, nI_toInt (by omega)]
      omega
    rw [eO] at hq1 hL
    have k1 : m1.1 187 1 = nI (nE v) := (f1.at (a := 187) (k := 1) (nRS (ρ := 23) rfl rfl)).trans hsd
    have k0 : m1.1 187 0 = nI a0 := (f1.at (a := 187) (k := 0) (nRS (ρ := 23) rfl rfl)).trans ea
    have k14 : m1.1 187 14 = nI t := (f1.at (a := 187) (k := 14) (nRS (ρ := 21) rfl rfl)).trans ht14
    have hM := e_leagueM (ad := ad) (d := d + 295) w1 k1 (by omega) k0 (by omega) (by omega) k14 ht0 (by omega) (iE v) g.1
    have hFr : ∀ st dg ln sd ar fr wp il sk, LO (m1.1 195) (decide (76 < t)) (minT t 76) 0 (0, 0, 0, nE v, a0, nE v, false, iE v, g.1) = .inr (st, dg, ln, sd, ar, fr, wp, il, sk) → wp = false → fr = nE v := fun _ _ _ _ _ _ _ _ _ h => LO_fr (n := nE v) _ _ _ _ _ _ _ _ _ _ _ (fun _ => rfl) h
    have hI0 : lgJ (iE v) g.1 (0, 0, 0, nE v, a0, nE v, false, iE v, g.1) := ⟨Nat.le_refl _, by omega, fun z => absurd z (by decide), fun _ _ => rfl, fun _ _ => rfl, zb⟩
    have hIv : ∀ L', LO (m1.1 195) (decide (76 < t)) (minT t 76) 0 (0, 0, 0, nE v, a0, nE v, false, iE v, g.1) = .inr L' → lgJ (iE v) g.1 L' := fun L' h => LO_I _ _ _ hI0 h
    generalize LO (m1.1 195) (decide (76 < t)) (minT t 76) 0 (0, 0, 0, nE v, a0, nE v, false, iE v, g.1) = O at hq1 hL hM hFr hIv
    cases O with
    | inl q =>
      obtain ⟨rfl, z11, F1⟩ := hq1 q rfl
      refine ⟨_, rfl, hM.to ?_⟩
      rintro r m2 ⟨⟨w2, f2, -, z14, -⟩, hq2, -⟩
      obtain ⟨rfl, F2⟩ := hq2 q rfl
      have e11 : m2.1 1 1 = 0 := (f2.at (a := 1) (k := 1) (nRS (ρ := 0) rfl rfl)).trans z11
      exact ⟨rfl, w2, ⟨(h1.fx F1 rfl).fx F2 rfl, TXI.zero (by rw [e11]; rfl) z14, IV.sd I1 F1 F2 rfl rfl⟩, hK F1 F2 kK rfl rfl⟩
    | inr L =>
      obtain ⟨st, dg, ln, sd, ar, fr, wp, il, sk⟩ := L
      have hL1 := hL st dg ln sd ar fr wp il sk rfl
      have hF := hFr st dg ln sd ar fr wp il sk rfl
      have hI := hIv _ rfl
      have hL2 := hL1.2.2
      have hL3 : lgC m False (st, dg, ln, sd, ar, fr, wp, il, sk) m1 := ⟨hL2.1, hL2.2.1, hL2.2.2.1, hL2.2.2.2.1, hL2.2.2.2.2.1, hL2.2.2.2.2.2.1, fun z => z.elim, hL2.2.2.2.2.2.2.2⟩
      obtain ⟨rfl, V, c1, c2, c3, c4, c5, c6, -⟩ := hL1
      refine ⟨_, rfl, hM.to ?_⟩
      rintro r m2 ⟨⟨w2, f2, -, z14, -⟩, -, hE⟩
      have hE1 := (hE st dg ln sd ar fr wp il sk rfl).2
      obtain ⟨rfl, b1, b2, b3, b4, b5, -⟩ := hE st dg ln sd ar fr wp il sk rfl
      have e11 : m2.1 1 1 = 0 := (f2.at (a := 1) (k := 1) (nRS (ρ := 0) rfl rfl)).trans c3
      have e33 : m2.1 3 3 = nI sd := (f2.at (a := 3) (k := 3) (nRS (ρ := 41) rfl rfl)).trans c1
      have e34 : m2.1 3 4 = nI ar := (f2.at (a := 3) (k := 4) (nRS (ρ := 41) rfl rfl)).trans c2
      have e15 : m2.1 0 15 = m1.1 0 15 := f2.at (a := 0) (k := 15) (nRS (ρ := 8) rfl rfl)
      have q10 : m1.1 187 10 = m.1 187 10 := f1.at (a := 187) (k := 10) (nRS (ρ := 25) rfl rfl)
      have q11 : m1.1 187 11 = m.1 187 11 := f1.at (a := 187) (k := 11) (nRS (ρ := 25) rfl rfl)
      have q52 : m1.1 187 52 = m.1 187 52 := f1.at (a := 187) (k := 52) (nRS (ρ := 39) rfl rfl)
      refine ⟨rfl, w2, ⟨?_, TXI.zero (by rw [e11]; rfl) z14, e33.trans b1.symm, e34.trans b2.symm, ?_⟩, KG.lg kd w2 f1 f2 hF V hL2 hE1 hI, KB.lg kq hq m m1 m2 (nE v) st dg ln sd ar fr wp il sk ⟨w, I1, kb⟩ en n8 w1 w2 f1 f2 hF V hL3 hE1 e33⟩
      · unfold RG
        cases wp with
        | true => left; have b5' : m2.1 187 10 = 0 ∧ m2.1 187 11 = 0 ∧ _ := b5; rw [b5'.2.1]; rfl
        | false => have b5' : m2.1 187 10 = m1.1 187 10 ∧ m2.1 187 11 = m1.1 187 11 ∧ _ := b5; rw [b5'.1, b5'.2.1, q10, q11]; exact h1
      · cases wp with
        | true =>
          have b5' : _ ∧ _ ∧ _ ∧ m2.1 187 52 = 0 := b5
          have c6' : _ ∧ m1.1 0 15 = 0 ∧ _ := c6
          rw [e15, c6'.2.1, b5'.2.2.2]
        | false =>
          have b5' : _ ∧ _ ∧ _ ∧ m2.1 187 52 = m1.1 187 52 := b5
          have c6' : _ ∧ m1.1 0 15 = m.1 0 15 ∧ _ := c6
          rw [e15, c6'.2.1, b5'.2.2.2, q52]
          exact h5
end LGG
/-! CALLS: keep, again -/
section KAG
variable {ad : Nat → Nat} {d n : Nat} {m m1 m2 : Wm} {g : GS} {v : EV} {H : List GS}
theorem HL.lay {a x : Nat} {m' : Wm} (h : HM n m g) (h8 : n ≤ 8) (e : ∀ k, k < 57 → m'.1 a (x + k) = layV m k) : HL n a x m' g := by
  obtain ⟨h1, h2, h3, h4, h5⟩ := h
  have e2 : ∀ k r, k < 8 → r < 3 → m'.1 a (x + 32 + 3 * k + r) = if r = 0 then m.1 190 k else if r = 1 then m.1 191 k else m.1 192 k := fun k r hk hr => by
    have := e (32 + 3 * k + r) (by omega)
    rw [show x + (32 + 3 * k + r) = x + 32 + 3 * k + r by omega] at this
    rw [this, layV_b hk hr]
  refine ⟨h8, fun k hk => ?_, fun k hk => ?_, fun k hk => ?_, fun k hk => ?_, ?_⟩
  · rw [e k (by omega), layV_a (by omega)]
    exact h1 k hk
  · exact (e2 k 0 (by omega) (by decide)).trans (h2 k hk)
  · exact (e2 k 1 (by omega) (by decide)).trans (h3 k hk)
  · exact (e2 k 2 (by omega) (by decide)).trans (h4 k hk)
  · rw [e 56 (by decide)]
    exact h5
theorem HM.tg {a x : Nat} {m' : Wm} (h : HL n a x m g) (B : ∀ k, k < 57 → m'.1 (tgt k).1 (tgt k).2 = m.1 a (x + k)) : HM n m' g := by
  obtain ⟨h8, h1, h2, h3, h4, h5⟩ := h
  refine ⟨fun k hk => ?_, fun k hk => ?_, fun k hk => ?_, fun k hk => ?_, ?_⟩
  · have := B k (by omega)
    rw [tgA_a (by omega)] at this
    exact this.trans (h1 k hk)
  · have := B (32 + 3 * k + 0) (by omega)
    rw [tgA_b (by omega) (by decide), show x + (32 + 3 * k + 0) = x + 32 + 3 * k by omega] at this
    exact this.trans (h2 k hk)
  · have := B (32 + 3 * k + 1) (by omega)
    rw [tgA_b (by omega) (by decide), show x + (32 + 3 * k + 1) = x + 32 + 3 * k + 1 by omega] at this
    exact this.trans (h3 k hk)
  · have := B (32 + 3 * k + 2) (by omega)
    rw [tgA_b (by omega) (by decide), show x + (32 + 3 * k + 2) = x + 32 + 3 * k + 2 by omega] at this
    exact this.trans (h4 k hk)
  · exact (B 56 (by decide)).trans h5
theorem KB.kpt {c i : Nat} (hi : i < 2) (k : KB c m) (C : kpC m i m1) (M : kpM m1 i m2) : KB (c + 1) m2 := by
  obtain ⟨pl, lw, kp⟩ := k
  obtain ⟨w1, F1, j1, j2, j3, j4, j5, j6, j7⟩ := C
  obtain ⟨w2, f2, b1, b2, b3, b4, b5, b6, b7, b8⟩ := M
  have f1 : Fx (RS [13]) m m1 := (Fx.rf (S := RS [13])).tr F1 (KR_13 hi rfl)
  refine ⟨(pl.fx f1 rfl rfl rfl rfl rfl).fx f2 rfl rfl rfl rfl rfl, (lw.fx f1 rfl rfl).fx f2 rfl rfl, ?_⟩
  obtain ⟨t, ht, h53, hk⟩ := kp
  have g53 : m1.1 187 53 = nI t := (f1.at (nRS (ρ := 45) rfl rfl)).trans h53
  have k53 : m2.1 187 53 = nI t := (f2.at (nRS (ρ := 45) rfl rfl)).trans g53
  have q13 : ∀ b k, 173 ≤ b → b < 187 → m2.1 b k = m1.1 b k := fun b k h1 h2 => f2.at (nRS (ρ := 13) rfl (rg_13 k h1 h2))
  refine ⟨t, by omega, k53, fun j hj => ?_⟩
  by_cases hji : j = i
  · subst hji
    have e216 : m2.1 216 j = nI t := b2.trans g53
    refine ⟨⟨t, Nat.le_refl _, e216⟩, ⟨fun _ => ⟨by rw [b1]; decide, e216.trans k53.symm⟩, fun _ => ?_⟩, fun _ k hk2 => ?_⟩
    · rw [q13 (173 + 7 * j) 4 (by omega) (by omega), j7]; decide
    · rw [q13 (173 + 7 * j + 6) k (by omega) (by omega), j5 k hk2, b6 k hk2, f1.at (a := 193) (k := k) (nRS (ρ := 47) rfl rfl)]
      exact lw k hk2
  · obtain ⟨⟨s, hs, a1⟩, a2, a3⟩ := hk j hj
    obtain ⟨d1, d2⟩ := b3 j hji
    have c215 : m2.1 215 j = m.1 215 j := d1.trans (f1.at (nRS (ρ := 40) rfl rfl))
    have c216 : m2.1 216 j = m.1 216 j := d2.trans (f1.at (nRS (ρ := 40) rfl rfl))
    have cc : ∀ b k, 173 + 7 * j ≤ b → b ≤ 173 + 7 * j + 6 → m2.1 b k = m.1 b k := fun b k h1 h2 => (q13 b k (by omega) (by omega)).trans (F1.at (by unfold BR; omega))
    refine ⟨⟨s, hs, c216.trans a1⟩, ?_, fun hz k hk2 => ?_⟩
    · rw [cc (173 + 7 * j) 4 (by omega) (by omega), c215, c216, k53, ← h53]; exact a2
    · rw [cc (173 + 7 * j) 4 (by omega) (by omega)] at hz
      rw [cc (173 + 7 * j + 6) k (by omega) (by omega), b8 (71 * j + 65 + k) (by omega), f1.at (a := 214) (k := 71 * j + 65 + k) (nRS (ρ := 40) rfl rfl)]
      exact a3 hz k hk2
theorem KGd.kpt {i : Nat} (hi : i < 2) (kd : KGd m g v H) (C : kpC m i m1) (M : kpM m1 i m2) : KGd m2 g v H := by
  obtain ⟨hc, hm, ec, em, uc, um, zb, zh, kp, nx⟩ := kd
  obtain ⟨w1, F1, j1, j2, j3, j4, j5, j6, j7⟩ := C
  obtain ⟨w2, f2, b1, b2, b3, b4, b5, b6, b7, b8⟩ := M
  have n8 := ec.2.2.1
  have f1 : Fx (RS [13]) m m1 := (Fx.rf (S := RS [13])).tr F1 (KR_13 hi rfl)
  have q13 : ∀ b k, 173 ≤ b → b < 187 → m2.1 b k = m1.1 b k := fun b k h1 h2 => f2.at (nRS (ρ := 13) rfl (rg_13 k h1 h2))
  refine ⟨(hc.fx SS_21 f1 rfl).fx SS_21 f2 rfl, (hm.fx f1 rfl rfl).fx f2 rfl rfl, (ec.fx f1 rfl).fx f2 rfl, (em.fx f1 rfl).fx f2 rfl, (uc.fx f1 rfl rfl).fx f2 rfl rfl, (um.fx f1 rfl).fx f2 rfl, zb, zh, fun j hj hz => ?_, (nx.fx f1 rfl rfl rfl).fx f2 rfl rfl rfl⟩
  by_cases hji : j = i
  · subst hji
    obtain ⟨nr, R, n1, n2, n3, n4, n5⟩ := nx
    have k3 : m2.1 (173 + 7 * j) 3 = nI nr := (q13 _ 3 (by omega) (by omega)).trans (j6.trans n1)
    have k70 : m2.1 214 (71 * j + 70) = nI nr := b7.trans ((f1.at (nRS (ρ := 52) rfl rfl)).trans n2)
    have hC : HC (173 + 7 * j + 1) m1 g := ⟨fun k hk => (j1 k hk).trans (hc.1 k hk), fun k hk => (j2 2 k (by decide) (by decide) hk).trans (hc.2.1 k hk), fun k hk => (j2 3 k (by decide) (by decide) hk).trans (hc.2.2.1 k hk), fun k hk => (j2 4 k (by decide) (by decide) hk).trans (hc.2.2.2.1 k hk), j3.trans hc.2.2.2.2⟩
    refine ⟨g, iE v, hC.fx (SS_i hj) f2 rfl, HL.lay (hm.fx f1 rfl rfl) n8 b4, zb, fun s hs => ?_, ec.2.2.2.2.2.1.2, fun s hs => ?_, k3.trans k70.symm, ?_⟩
    · rw [q13 _ 2 (by omega) (by omega), j4]
      exact ec.2.2.2.2.2.1.1 s hs
    · rw [b5 s (by omega), f1.at (a := 189) (k := s) (nRS (ρ := 46) rfl rfl), em.2.2.2.2.2.1 s hs]
      by_cases q : iE v s = true
      · rw [if_pos q]; rfl
      · rw [if_neg q]; rfl
    · rw [k3, nI_toInt (by omega)]
      omega
  · have cc : ∀ b k, 173 + 7 * j ≤ b → b ≤ 173 + 7 * j + 6 → m2.1 b k = m.1 b k := fun b k h1 h2 => (q13 b k (by omega) (by omega)).trans (F1.at (by unfold BR; omega))
    have cm : ∀ k, 71 * j ≤ k → k < 71 * j + 71 → m2.1 214 k = m.1 214 k := fun k h1 h2 => (b8 k (by omega)).trans (f1.at (nRS (ρ := 40) rfl rfl))
    rw [cc (173 + 7 * j) 4 (by omega) (by omega)] at hz
    obtain ⟨g', il, h1, h2, h3, h4, h4b, h4c, h5, h6⟩ := kp j hj hz
    have hC : HC (173 + 7 * j + 1) m2 g' := ⟨fun k hk => (cc _ k (by omega) (by omega)).trans (h1.1 k hk), fun k hk => (cc _ k (by omega) (by omega)).trans (h1.2.1 k hk), fun k hk => (cc _ k (by omega) (by omega)).trans (h1.2.2.1 k hk), fun k hk => (cc _ k (by omega) (by omega)).trans (h1.2.2.2.1 k hk), (cc _ 4 (by omega) (by omega)).trans h1.2.2.2.2⟩
    rw [cc (173 + 7 * j) 3 (by omega) (by omega)]
    refine ⟨g', il, hC, h2.k (fun k q1 q2 => cm k (by omega) (by omega)), h3, fun s hs => ?_, h4b, fun s hs => (cm _ (by omega) (by omega)).trans (h4c s hs), h5.trans (cm _ (by omega) (by omega)).symm, h6⟩
    rw [cc (173 + 7 * j) 2 (by omega) (by omega)]
    exact h4 s hs
theorem og_keep (c : Nat) (a : Int32) : Both ad d μX11_keep μX12_keep [.int a] (InvK (KX KG c)) (InvK (KX KG (c + 1))) := fun m I => by
  obtain ⟨w, I1, ⟨g, v, H, kd⟩, kb⟩ := I
  refine (e_keepC (d := d + 297) w).to ?_
  rintro r m1 (⟨i, hi, hx, rfl, C⟩ | ⟨hx, rfl, e⟩)
  · have f1 : Fx (RS [13]) m m1 := (Fx.rf (S := RS [13])).tr C.2.1 (KR_13 hi rfl)
    refine ⟨1, rfl, (e_keepM (d := d + 298) C.1).to ?_⟩
    rintro r m2 (⟨i', hi', hx', rfl, M⟩ | ⟨hx', -⟩)
    · have hii : i' = i := ((nI_eq (a := i) (b := i') (by omega) (by omega)).mp (hx.symm.trans hx')).symm
      subst hii
      exact ⟨rfl, M.1, I1.f2 f1 M.2.1 rfl rfl, ⟨g, v, H, KGd.kpt hi kd C M⟩, KB.kpt hi kb C M⟩
    · have hx2 : a.toInt = i := by rw [hx, nI_toInt (by omega)]
      omega
  · obtain rfl := e.symm
    refine ⟨0, rfl, (e_keepM (d := d + 298) w).to ?_⟩
    rintro r m2 (⟨i', hi', hx', -⟩ | ⟨-, rfl, w2, f2⟩)
    · have : a.toInt = i' := by rw [hx', nI_toInt (by omega)]
      omega
    · exact ⟨rfl, w2, I1.f2 (Fx.rf (S := RS [])) f2 rfl rfl, ⟨g, v, H, kd.fx f2 rfl⟩, KB.fd c (Fx.rf (S := RS [])) f2 kb rfl rfl⟩
theorem KB.ag {c i P : Nat} (hi : i < 2) (hz : m.1 (173 + 7 * i) 4 ≠ 0) (k : KB c m) (C : agC m i P m1) (M : agM m1 i m2) : KB (c + 1) m2 := by
  obtain ⟨pl, lw, kp⟩ := k
  have kp0 := kp
  obtain ⟨t, ht, h53, hk⟩ := kp0
  obtain ⟨w1, f1, j1, j2, j3, j4, j5, j6, j7⟩ := C
  obtain ⟨w2, f2, b1, b2, b3, b4, b5⟩ := M
  refine ⟨(pl.fx f1 rfl rfl rfl rfl rfl).fx f2 rfl rfl rfl rfl rfl, fun k hk2 => ?_, ((kp.fx f1 rfl rfl rfl).fx f2 rfl rfl rfl).up⟩
  rw [f2.at (a := 4) (k := k) (nRS (ρ := 43) rfl rfl), j5 k hk2, b3 k hk2, f1.at (a := 214) (k := 71 * i + 65 + k) (nRS (ρ := 40) rfl rfl)]
  exact (hk i hi).2.2 hz k hk2
theorem KGd.ag {c i P Q : Nat} (hi : i < 2) (hz : m.1 (173 + 7 * i) 4 ≠ 0) (kd : KGd m g v H) (kb : KB c m) (hR : PRF m P Q) (X : PlX P m) (C : agC m i P m1) (M : agM m1 i m2) : KG m2 := by
  obtain ⟨hc, hm, ec, em, uc, um, zb, zh, kp, nx⟩ := kd
  obtain ⟨pl, lw, t, ht, h53, hk⟩ := kb
  obtain ⟨w1, f1, j1, j2, j3, j4, j5, j6, j7⟩ := C
  obtain ⟨w2, f2, b1, b2, b3, b4, b5⟩ := M
  obtain ⟨g', il, h1, h2, h3, h4, h4b, h4c, h5, h6a, h6b⟩ := kp i hi hz
  have hlw := (hk i hi).2.2 hz
  have hc1 : HC 21 m1 g' := ⟨fun k hk => (j1 k hk).trans (h1.1 k hk), fun k hk => (j2 2 k (by decide) (by decide) hk).trans (h1.2.1 k hk), fun k hk => (j2 3 k (by decide) (by decide) hk).trans (h1.2.2.1 k hk), fun k hk => (j2 4 k (by decide) (by decide) hk).trans (h1.2.2.2.1 k hk), j3.trans h1.2.2.2.2⟩
  have h2' : HL (nE v) 214 (71 * i) m1 g' := h2.k (fun k _ _ => f1.at (nRS (ρ := 40) rfl rfl))
  have ec2 : EC m2 (v.1, v.2.1, (fun k => m.1 (173 + 7 * i + 6) k), il, v.2.2.2.2) := by
    obtain ⟨q1, q2, q3, q4, q5, q6, q7⟩ := ec
    refine ⟨(f2.at (nRS (ρ := 41) rfl rfl)).trans ((f1.at (nRS (ρ := 41) rfl rfl)).trans q1), (f2.at (nRS (ρ := 41) rfl rfl)).trans ((f1.at (nRS (ρ := 41) rfl rfl)).trans q2), q3, q4, fun k hk => (f2.at (nRS (ρ := 43) rfl rfl)).trans (j5 k hk), ⟨fun s hs => ?_, h4b⟩, (q7.fx f1 rfl).fx f2 rfl⟩
    rw [f2.at (a := 3) (k := 5) (nRS (ρ := 42) rfl rfl), j4]
    exact h4 s hs
  have em2 : EM m2 (v.1, v.2.1, (fun k => m.1 (173 + 7 * i + 6) k), il, v.2.2.2.2) := by
    obtain ⟨q1, q2, q3, q4, q5, q6, q7, q8, q9⟩ := em
    refine ⟨(f2.at (nRS (ρ := 23) rfl rfl)).trans ((f1.at (nRS (ρ := 23) rfl rfl)).trans q1), (f2.at (nRS (ρ := 23) rfl rfl)).trans ((f1.at (nRS (ρ := 23) rfl rfl)).trans q2), q3, q4, fun k hk => ?_, fun s hs => ?_, (f2.at (nRS (ρ := 48) rfl rfl)).trans ((f1.at (nRS (ρ := 48) rfl rfl)).trans q7), q8, fun k hk => (f2.at (nRS (ρ := 48) rfl rfl)).trans ((f1.at (nRS (ρ := 48) rfl rfl)).trans (q9 k hk))⟩
    · rw [b3 k hk, f1.at (a := 214) (k := 71 * i + 65 + k) (nRS (ρ := 40) rfl rfl)]
      exact (hlw k hk).symm
    · have hs' : s < nE v := hs
      have n8 : nE v ≤ 8 := q3
      rw [b2 s (by omega), f1.at (a := 214) (k := 71 * i + 57 + s) (nRS (ρ := 40) rfl rfl), h4c s hs']
      show _ = if il s = true then 1 else 0
      by_cases q : il s = true
      · rw [if_pos q]; rfl
      · rw [if_neg q]; rfl
  have nx2 : NxR m2 := by
    obtain ⟨nr, R, n1, n2, n3, n4, n5⟩ := nx
    obtain ⟨n', R', g1, sn, x1, x2, x3, x4, -, -, x7, -⟩ := X
    have hRR : R' = R := (nI_eq (a := R') (b := R) (by omega) (by omega)).mp (x4.symm.trans n3)
    subst hRR
    obtain ⟨k, hk', ek⟩ := zn_of h6a
    rw [ek, nI_toInt hk'] at h6b
    have e11 : m1.1 187 11 = nI R' := (f1.at (nRS (ρ := 25) rfl rfl)).trans n3
    have e70 : m1.1 214 (71 * i + 70) = nI k := (f1.at (nRS (ρ := 40) rfl rfl)).trans (h5.symm.trans ek)
    have e11' : m2.1 187 11 = nI R' := (f2.at (nRS (ρ := 25) rfl rfl)).trans e11
    have e0 : m2.1 0 11 = m1.1 0 11 := f2.at (nRS (ρ := 44) rfl rfl)
    rw [x3, ek, nI_toInt (by omega)] at j7
    rw [e11, e70] at b5
    by_cases hR0 : R' = 0
    · rw [if_pos (by omega)] at j7
      rw [if_pos (by rw [hR0]; rfl)] at b5
      exact ⟨0, R', e0.trans j7, b5, e11', n4, Or.inl rfl⟩
    · rw [if_neg (by omega), nI_rem (by omega) (by omega) (by omega)] at j7
      rw [if_neg (show ¬ nI R' = 0 from fun z => hR0 ((nI_eq (a := R') (b := 0) (by omega) (by omega)).mp z)), nI_rem (by omega) (by omega) (by omega)] at b5
      exact ⟨k % R', R', e0.trans j7, b5, e11', n4, Or.inr (Nat.mod_lt k (by omega))⟩
  exact ⟨g', (v.1, v.2.1, (fun k => m.1 (173 + 7 * i + 6) k), il, v.2.2.2.2), [], hc1.fx SS_21 f2 rfl, HM.tg h2' b1, ec2, em2, UnC.wt w2 ((f2.at (nRS (ρ := 53) rfl rfl)).trans j6), UnM.wt b4, h3, fun j hj => absurd hj (Nat.not_lt_zero j), (kp.fx f1 rfl rfl).fx f2 rfl rfl, nx2⟩
theorem og_again (c : Nat) (a : Int32) : Both ad d μX11_again μX12_again [.int a] (InvK (KX KG c)) (InvK (KX KG (c + 1))) := fun m I => by
  obtain ⟨w, I1, ⟨g, v, H, kd⟩, kb⟩ := I
  have kb0 := kb
  obtain ⟨⟨P, Q, hR, X⟩, lw, t, ht, h53, hk⟩ := kb
  refine (e_againC (d := d + 297) w hR.1).to ?_
  rintro r m1 (⟨i, hi, hx, hz, rfl, C⟩ | ⟨hx, rfl, e⟩)
  · have f1 := C.2.1
    refine ⟨1, rfl, (e_againM (d := d + 298) C.1).to ?_⟩
    rintro r m2 (⟨i', hi', hx', hz', rfl, M⟩ | ⟨hx', -⟩)
    · have hii : i' = i := ((nI_eq (a := i) (b := i') (by omega) (by omega)).mp (hx.symm.trans hx')).symm
      subst hii
      exact ⟨rfl, M.1, I1.f2 f1 M.2.1 rfl rfl, KGd.ag hi hz kd kb0 hR X C M, KB.ag hi hz kb0 C M⟩
    · refine absurd ?_ (hx' i hi hx)
      rw [f1.at (a := 215) (k := i) (nRS (ρ := 40) rfl rfl), f1.at (a := 216) (k := i) (nRS (ρ := 40) rfl rfl), f1.at (a := 187) (k := 53) (nRS (ρ := 45) rfl rfl)]
      exact (hk i hi).2.1.mp hz
  · obtain rfl := e.symm
    refine ⟨0, rfl, (e_againM (d := d + 298) w).to ?_⟩
    rintro r m2 (⟨i', hi', hx', hz', -⟩ | ⟨-, rfl, w2, f2⟩)
    · exact absurd (hx i' hi' hx') ((hk i' hi').2.1.mpr hz')
    · exact ⟨rfl, w2, I1.f2 (Fx.rf (S := RS [])) f2 rfl rfl, ⟨g, v, H, kd.fx f2 rfl⟩, KB.fd c (Fx.rf (S := RS [])) f2 kb0 rfl rfl⟩
end KAG
end
section
/-! CALLS: rule; and those that search, as far as what stands goes -/
section RUG
variable {ad : Nat → Nat} {d n : Nat} {m m' m1 m2 : Wm} {g : GS} {v : EV} {H : List GS} {S : List Nat}
theorem KG.ru (k : KG m) : RuK m := by
  obtain ⟨g, v, H, kd⟩ := k
  obtain ⟨-, -, ec, em, -⟩ := kd
  obtain ⟨P, Q, hR, cl, hX, hv⟩ := ec.2.2.2.2.2.2
  obtain ⟨-, -, -, -, -, -, q7, q8, q9⟩ := em
  refine ⟨P, Q, hR, cl, zE v, hX, q7, q8, ?_⟩
  rcases hv with hv | ⟨z1, z2, z3⟩
  · exact Or.inl hv
  · refine Or.inr ⟨z1, z2, fun lt => ?_⟩
    rw [z3 lt, prF_ch (tx := m.1 200) (tb := tE v) (fun k hk => q9 k hk)]
theorem KG.rr (c : Nat) : ∀ m, KX KG c m → ∃ P Q, RuR m P Q := fun m k => by
  obtain ⟨P, Q, h, -⟩ := k.1.ru
  exact ⟨P, Q, h⟩
theorem KG.rl (c : Nat) : RLH (KX KG c) (KX KG (c + 1)) := fun m m1 m2 I w1 w2 f1 f2 h => by
  obtain ⟨w, I1, ⟨g, v, H, kd⟩, kb⟩ := I
  have hr := h (KG.ru ⟨g, v, H, kd⟩)
  obtain ⟨hc, hm, ec, em, uc, um, zb, zh, kp, nx⟩ := kd
  obtain ⟨P, Q, hR, cl, z, hX, h27, hz, hv⟩ := hr
  obtain ⟨p1, p2, p3, p4, p5, p6, p7⟩ := ec
  obtain ⟨q1, q2, q3, q4, q5, q6, q7, q8, q9⟩ := em
  have ec2 : EC m2 (v.1, v.2.1, v.2.2.1, v.2.2.2.1, m2.1 200, z) := by
    refine ⟨(f2.at (nRS (ρ := 41) rfl rfl)).trans ((f1.at (nRS (ρ := 41) rfl rfl)).trans p1), (f2.at (nRS (ρ := 41) rfl rfl)).trans ((f1.at (nRS (ρ := 41) rfl rfl)).trans p2), p3, p4, fun k hk => (f2.at (nRS (ρ := 43) rfl rfl)).trans ((f1.at (nRS (ρ := 43) rfl rfl)).trans (p5 k hk)), ⟨fun s hs => ?_, p6.2⟩, P, Q, hR, cl, hX, hv⟩
    rw [f2.at (a := 3) (k := 5) (nRS (ρ := 42) rfl rfl), f1.at (a := 3) (k := 5) (nRS (ρ := 42) rfl rfl)]
    exact p6.1 s hs
  have em2 : EM m2 (v.1, v.2.1, v.2.2.1, v.2.2.2.1, m2.1 200, z) := ⟨(f2.at (nRS (ρ := 23) rfl rfl)).trans ((f1.at (nRS (ρ := 23) rfl rfl)).trans q1), (f2.at (nRS (ρ := 23) rfl rfl)).trans ((f1.at (nRS (ρ := 23) rfl rfl)).trans q2), q3, q4, fun k hk => (f2.at (nRS (ρ := 47) rfl rfl)).trans ((f1.at (nRS (ρ := 47) rfl rfl)).trans (q5 k hk)), fun s hs => (f2.at (nRS (ρ := 46) rfl rfl)).trans ((f1.at (nRS (ρ := 46) rfl rfl)).trans (q6 s hs)), h27, hz, fun _ _ => rfl⟩
  exact ⟨⟨g, (v.1, v.2.1, v.2.2.1, v.2.2.2.1, m2.1 200, z), H, (hc.fx SS_21 f1 rfl).fx SS_21 f2 rfl, (hm.fx f1 rfl rfl).fx f2 rfl rfl, ec2, em2, (uc.fx f1 rfl rfl).fx f2 rfl rfl, (um.fx f1 rfl).fx f2 rfl, zb, zh, (kp.fx f1 rfl rfl).fx f2 rfl rfl, (nx.fx f1 rfl rfl rfl).fx f2 rfl rfl rfl⟩, KB.rl c kb f1 f2⟩
/-- KGL without the model's league and its luck -/
def KGH : List Nat := [1, 4, 6, 13, 23, 25, 29, 40, 41, 42, 43, 44, 46, 47, 48, 52, 53]
theorem KGd.hms (h : KGd m g v H) (f : Fx (RS S) m m') (e : (S.all fun x => !(KGH.elem x)) = true) (hm2 : HM (nE v) m' g) : KGd m' g v H := by
  obtain ⟨hc, hm, ec, em, uc, um, zb, zh, kp, nx⟩ := h
  have q : ∀ ρ, KGH.elem ρ = true → S.elem ρ = false := fun ρ hρ => all_ne e hρ
  exact ⟨hc.fx SS_21 f (q 4 rfl), hm2, ec.fx f (all_sub e (by decide)), em.fx f (all_sub e (by decide)), uc.fx f (q 6 rfl) (q 53 rfl), um.fx f (q 29 rfl), zb, zh, kp.fx f (q 13 rfl) (q 40 rfl), nx.fx f (q 44 rfl) (q 52 rfl) (q 25 rfl)⟩
/-- a call that leaves the class's league alone, and gives the model's back -/
theorem og_w {μ μ' : MI} {as : List Value} {c : Nat} {A B : List Nat} (hC : ∀ m, WT m → Ct ad μ (d + 300) (.ref (ad 0) :: as) m (fun r m1 => WT m1 ∧ Fx (RS A) m m1 ∧ ∃ v : Int32, r = some (.int v)))
    (hM : ∀ m g n, WT m → HM n m g → m.1 187 1 = nI n → n ≤ 8 → RG m → Ct ad μ' (d + 300) (.ref (ad 187) :: as) m (RP B n m g))
    (a1 : (A.all fun x => !(KGL.elem x)) = true) (a2 : (A.all fun x => !(IL.elem x)) = true) (a3 : (A.all fun x => !(KLB.elem x)) = true)
    (b1 : (B.all fun x => !(KGH.elem x)) = true) (b2 : (B.all fun x => !(IL.elem x)) = true) (b3 : (B.all fun x => !(KLB.elem x)) = true) : BothW ad d μ μ' as (InvK (KX KG c)) (InvK (KX KG (c + 1))) := fun m I => by
  obtain ⟨w, I1, ⟨g, v, H, kd⟩, kb⟩ := I
  refine (hC m w).to ?_
  rintro _ m1 ⟨w1, f1, v1, rfl⟩
  have kd1 := kd.fx f1 a1
  have J1 := I1.fx f1 a2
  refine ⟨⟨_, rfl⟩, (hM m1 g (nE v) w1 kd1.2.1 kd1.2.2.2.1.1 kd1.2.2.1.2.2.1 J1.1).to ?_⟩
  rintro _ m2 ⟨w2, f2, hm2, v2, rfl⟩
  exact ⟨⟨_, rfl⟩, w2, J1.fx f2 b2, ⟨g, v, H, kd1.hms f2 b1 hm2⟩, KB.fd c f1 f2 kb a3 b3⟩
theorem og_rest (c : Nat) : BothW ad d μX11_rest μX12_rest [] (InvK (KX KG c)) (InvK (KX KG (c + 1))) := og_w (fun _ w => s_X11_rest w) (fun _ _ _ w hm hs h8 _ => r_rest (d := d + 122) w hm hs h8) rfl rfl rfl rfl rfl rfl
theorem og_mean (c : Nat) (x1 x2 : Int32) : BothW ad d μX11_mean μX12_mean [.int x1, .int x2] (InvK (KX KG c)) (InvK (KX KG (c + 1))) := og_w (fun _ w => s_X11_mean w) (fun _ _ _ w hm hs h8 _ => r_mean (d := d + 122) w hm hs h8) rfl rfl rfl rfl rfl rfl
theorem og_soon (c : Nat) (x1 x2 x3 : Int32) : BothW ad d μX11_soon μX12_soon [.int x1, .int x2, .int x3] (InvK (KX KG c)) (InvK (KX KG (c + 1))) := og_w (fun _ w => s_X11_soon w) (fun _ _ _ w hm hs h8 _ => r_soon (d := d + 122) w hm hs h8) rfl rfl rfl rfl rfl rfl
theorem og_top (c : Nat) (x1 x2 x3 : Int32) : BothW ad d μX11_top μX12_top [.int x1, .int x2, .int x3] (InvK (KX KG c)) (InvK (KX KG (c + 1))) := og_w (fun _ w => s_X11_top w) (fun _ _ _ w hm hs h8 _ => r_top (d := d + 122) w hm hs h8) rfl rfl rfl rfl rfl rfl
theorem og_quick (c : Nat) (x1 : Int32) : BothW ad d μX11_quick μX12_quick [.int x1] (InvK (KX KG c)) (InvK (KX KG (c + 1))) := og_w (fun _ w => s_X11_quick w) (fun _ _ _ w hm hs h8 _ => r_quick (d := d + 122) w hm hs h8) rfl rfl rfl rfl rfl rfl
theorem og_best (c : Nat) (x1 x2 : Int32) : BothW ad d μX11_best μX12_best [.int x1, .int x2] (InvK (KX KG c)) (InvK (KX KG (c + 1))) := og_w (fun _ w => s_X11_best w) (fun _ _ _ w hm hs h8 _ => r_best (d := d + 122) w hm hs h8) rfl rfl rfl rfl rfl rfl
theorem og_even (c : Nat) (x1 : Int32) : BothW ad d μX11_even μX12_even [.int x1] (InvK (KX KG c)) (InvK (KX KG (c + 1))) := og_w (fun _ w => s_X11_even w) (fun _ _ _ w hm hs h8 _ => r_even (d := d + 122) w hm hs h8) rfl rfl rfl rfl rfl rfl
theorem og_all (c : Nat) : BothW ad d μX11_all μX12_all [] (InvK (KX KG c)) (InvK (KX KG (c + 1))) := og_w (fun _ w => s_X11_all w) (fun _ _ _ w hm hs h8 _ => r_all (d := d + 122) w hm hs h8) rfl rfl rfl rfl rfl rfl
end RUG
/-! CALLS: wins, hopes, as far as what stands goes -/
section WNX
variable {ad : Nat → Nat} {n : Nat} {m : Wm} {g : GS}
theorem RG.ten (h : RG m) (h11 : ¬ m.1 187 11 = 0) : 1 ≤ (m.1 187 10).toInt := by
  have z0 : (0 : Int32).toInt = 0 := rfl
  rcases h with q | q
  · exact absurd ((fa_eq _ _).mpr (q.trans z0.symm)) h11
  · exact q
theorem r_wins {d : Nat} {x1 x2 x3 : Int32} (w : WT m) (hm : HM n m g) (h8 : n ≤ 8) (hR : RG m) : Ct ad μX12_wins (d + 191) [.ref (ad 187), .int x1, .int x2, .int x3] m (RP [20, 22, 24, 26, 28, 36, 37, 49] n m g) := by
  have w0 : WT (uI m 187 17 0) := w.n rfl
  have f0 : Fx (RS [20, 22, 24, 26, 28, 36, 37, 49]) m (uI m 187 17 0) := Fx.rf.i rfl
  have hm0 : HM n (uI m 187 17 0) g := hm
  have nn : ∀ x : Int32, RP [20, 22, 24, 26, 28, 36, 37, 49] n m g (some (.int x)) (uI m 187 17 0) := fun x => ⟨w0, f0, hm0, x, rfl⟩
  refine v_X12_wins (d := d + 190) ((isSideH (d := d + 189) w0).to ?_)
  rintro _ m1 ⟨eq, v1, rfl, -⟩
  obtain rfl := eq.symm
  refine ⟨v1, rfl, fun _ => nn _, fun _ => (inH (lo := 1) (hi := 6) rfl rfl).to ?_⟩
  rintro _ m1 ⟨eq, v2, rfl, y2⟩
  obtain rfl := eq.symm
  refine ⟨v2, rfl, fun _ => nn _, fun n2 => (inH (lo := 0) (hi := x2) rfl rfl).to ?_⟩
  rintro _ m1 ⟨eq, v3, rfl, -⟩
  obtain rfl := eq.symm
  refine ⟨v3, rfl, fun _ => nn _, fun _ => ⟨fun n11 => ?_, fun _ => nn _⟩⟩
  have z1 : (1 : Int32).toInt = 1 := rfl
  have z6 : (6 : Int32).toInt = 6 := rfl
  have y2' := y2.resolve_left n2
  refine (r_chanceOfWins (d := d) h8 w0 hm0 (by omega) (by omega) (RG.ten (m := m) hR n11)).to ?_
  rintro _ m2 ⟨w2, f2, hm2, v4, rfl⟩
  refine ⟨v4, rfl, ?_⟩
  have w3 : WT (uI m2 187 16 (0 : Int32)) := w2.t rfl (by decide) (by decide)
  have f3 : Fx (RS [20, 22, 24, 26, 28, 36, 37, 49]) m (uI m2 187 16 (0 : Int32)) := (f0.tr f2 (RS_sub rfl)).i rfl
  have hm3 : HM n (uI m2 187 16 (0 : Int32)) g := hm2
  refine (s_X12_power100 w3 (by omega) (by omega)).to ?_
  rintro _ m4 ⟨w4, f4, v5, rfl, n5⟩
  have e16 : (m4.1 187 16).toInt = 0 := by
    rw [f4.at (a := 187) (k := 16) (nRS (ρ := 26) rfl rfl), u_eq]
    rfl
  refine ⟨v5, rfl, (s_X12_tellPart (d := d + 50) w4 n5 (by omega)).to ?_⟩
  rintro _ m5 ⟨w5, f5, rfl, -⟩
  exact ⟨rfl, w5, (f3.tr f4 (RS_sub rfl)).tr f5 (RS_sub rfl), (hm3.fx f4 rfl rfl).fx f5 rfl rfl, 0, rfl⟩
theorem r_hopes {d : Nat} {x1 : Int32} (w : WT m) (hm : HM n m g) (h8 : n ≤ 8) (hR : RG m) : Ct ad μX12_hopes (d + 191) [.ref (ad 187), .int x1] m (RP [20, 22, 24, 26, 28, 36, 37, 49] n m g) := by
  have w0 : WT (uI m 187 17 0) := w.n rfl
  have f0 : Fx (RS [20, 22, 24, 26, 28, 36, 37, 49]) m (uI m 187 17 0) := Fx.rf.i rfl
  have hm0 : HM n (uI m 187 17 0) g := hm
  have nn : ∀ x : Int32, RP [20, 22, 24, 26, 28, 36, 37, 49] n m g (some (.int x)) (uI m 187 17 0) := fun x => ⟨w0, f0, hm0, x, rfl⟩
  refine v_X12_hopes (d := d + 190) ((inH (lo := 1) (hi := 6) rfl rfl).to ?_)
  rintro _ m1 ⟨eq, v2, rfl, y2⟩
  obtain rfl := eq.symm
  refine ⟨v2, rfl, fun _ => nn _, fun n2 => ⟨fun n11 => ?_, fun _ => nn _⟩⟩
  have z1 : (1 : Int32).toInt = 1 := rfl
  have z6 : (6 : Int32).toInt = 6 := rfl
  have y2' := y2.resolve_left n2
  have wa : WT (uI (uI (uI m 187 17 0) 187 48 (256 : Int32)) 187 49 (0 : Int32)) := (w0.n rfl).n rfl
  have fa : Fx (RS [20, 22, 24, 26, 28, 36, 37, 49]) m (uI (uI (uI m 187 17 0) 187 48 (256 : Int32)) 187 49 (0 : Int32)) := (f0.i rfl).i rfl
  have hma : HM n (uI (uI (uI m 187 17 0) 187 48 (256 : Int32)) 187 49 (0 : Int32)) g := hm
  refine (r_hopeOf (d := d) h8 wa hma (by omega) (by omega) (RG.ten (m := m) hR n11)).to ?_
  rintro _ m2 ⟨w2, f2, hm2, v4, rfl⟩
  refine ⟨v4, rfl, ?_⟩
  have w3 : WT (uI m2 187 16 (0 : Int32)) := w2.t rfl (by decide) (by decide)
  have f3 : Fx (RS [20, 22, 24, 26, 28, 36, 37, 49]) m (uI m2 187 16 (0 : Int32)) := (fa.tr f2 (RS_sub rfl)).i rfl
  have hm3 : HM n (uI m2 187 16 (0 : Int32)) g := hm2
  refine (s_X12_power100 w3 (by omega) (by omega)).to ?_
  rintro _ m4 ⟨w4, f4, v5, rfl, n5⟩
  have e16 : (m4.1 187 16).toInt = 0 := by
    rw [f4.at (a := 187) (k := 16) (nRS (ρ := 26) rfl rfl), u_eq]
    rfl
  refine ⟨v5, rfl, (s_X12_tellPart (d := d + 50) w4 n5 (by omega)).to ?_⟩
  rintro _ m5 ⟨w5, f5, rfl, p5⟩
  refine ⟨rfl, (s_X12_tell w5 (by omega)).to ?_⟩
  rintro _ m6 ⟨w6, f6, rfl, p6⟩
  refine ⟨rfl, (s_X12_tell w6 (by omega)).to ?_⟩
  rintro _ m7 ⟨w7, f7, rfl, -⟩
  exact ⟨rfl, w7, (((f3.tr f4 (RS_sub rfl)).tr f5 (RS_sub rfl)).tr f6 (RS_sub rfl)).tr f7 (RS_sub rfl), (((hm3.fx f4 rfl rfl).fx f5 rfl rfl).fx f6 rfl rfl).fx f7 rfl rfl, 0, rfl⟩
theorem og_wins {d : Nat} (c : Nat) (x1 x2 x3 : Int32) : BothW ad d μX11_wins μX12_wins [.int x1, .int x2, .int x3] (InvK (KX KG c)) (InvK (KX KG (c + 1))) := og_w (fun _ w => s_X11_wins w) (fun _ _ _ w hm _ h8 hR => r_wins (d := d + 109) w hm h8 hR) rfl rfl rfl rfl rfl rfl
theorem og_hopes {d : Nat} (c : Nat) (x1 : Int32) : BothW ad d μX11_hopes μX12_hopes [.int x1] (InvK (KX KG c)) (InvK (KX KG (c + 1))) := og_w (fun _ w => s_X11_hopes w) (fun _ _ _ w hm _ h8 hR => r_hopes (d := d + 109) w hm h8 hR) rfl rfl rfl rfl rfl rfl
end WNX
/-! LAWS AND ILLNESS THAT ARE CHANGED AND GIVEN BACK -/
section PYL
variable {ad : Nat → Nat} {d : Nat} {m m' m1 : Wm} {g : GS} {v : EV} {H : List GS} {p : PLN} {S : List Nat}
theorem run_sv {lk : Bool} : ∀ (k j : Nat) (T : RSt), (runR lk false v p k j T).2.1 = T.2.1 := by
  intro k
  induction k with
  | zero => intro j T; rfl
  | succ k ih => intro j T; exact ih (j + 1) (stepR lk false v p j T)
theorem rds_sv {lk : Bool} : ∀ (k ρ : Nat) (T : RSt), (rdsR lk false v p k ρ T).2.1 = T.2.1 := by
  intro k
  induction k with
  | zero => intro ρ T; rfl
  | succ k ih => intro ρ T; exact (ih _ _).trans (run_sv _ _ _)
theorem xor2 {a b : Int32} : (a ^^^ b) ^^^ b = a := b_ext (fun i _ => by rw [b_xor, b_xor, Bool.xor_assoc, Bool.xor_self, Bool.xor_false])
theorem EC.ke (h : EC m v) (f : Fx (RS S) m m') (e : (S.all fun x => !(([1, 41] : List Nat).elem x)) = true) (h4 : ∀ k, k < 5 → m'.1 4 k = m.1 4 k) (h35 : m'.1 3 5 = m.1 3 5) : EC m' v := by
  obtain ⟨p1, p2, p3, p4, p5, p6, p7⟩ := h
  refine ⟨(f.at (nRS (all_ne e (ρ := 41) rfl) rfl)).trans p1, (f.at (nRS (all_ne e (ρ := 41) rfl) rfl)).trans p2, p3, p4, fun k hk => (h4 k hk).trans (p5 k hk), ⟨fun s hs => ?_, p6.2⟩, p7.fx f (all_ne e (ρ := 1) rfl)⟩
  rw [h35]
  exact p6.1 s hs
theorem EM.ke (h : EM m v) (f : Fx (RS S) m m') (e : (S.all fun x => !(([23, 48] : List Nat).elem x)) = true) (h4 : ∀ k, k < 5 → m'.1 193 k = m.1 193 k) (h189 : ∀ s, s < nE v → m'.1 189 s = if iE v s = true then 1 else 0) : EM m' v := by
  obtain ⟨q1, q2, q3, q4, q5, q6, q7, q8, q9⟩ := h
  exact ⟨(f.at (nRS (all_ne e (ρ := 23) rfl) rfl)).trans q1, (f.at (nRS (all_ne e (ρ := 23) rfl) rfl)).trans q2, q3, q4, fun k hk => (h4 k hk).trans (q5 k hk), h189, (f.at (nRS (all_ne e (ρ := 48) rfl) rfl)).trans q7, q8, fun k hk => (f.at (nRS (all_ne e (ρ := 48) rfl) rfl)).trans (q9 k hk)⟩
end PYL
/-! THE SORT OF THE LAW, CHANGED AND GIVEN BACK -/
section LWG
variable {ad : Nat → Nat} {d : Nat} {m m0 : Wm} {g : GS} {v : EV} {H : List GS} {p : PLN}
theorem EM.l0 {y x : Int32} (h : EM m (setL v 0 y)) : EM (uI m 193 0 x) (setL v 0 x) := by
  obtain ⟨q1, q2, q3, q4, q5, q6, q7⟩ := h
  refine ⟨q1, q2, q3, q4, fun k hk => ?_, q6, q7⟩
  have e := q5 k hk
  show (uI m 193 0 x).1 193 k = upd (lE v) 0 x k
  have e' : m.1 193 k = upd (lE v) 0 y k := e
  rw [upd_at] at e' ⊢
  by_cases q : k = 0
  · rw [if_pos q, q, u_eq]
  · rw [if_neg q, u_ne (fun z => q z.2), e', if_neg q]
theorem EM.lz (h : EM m (setL v 0 (lE v 0))) : EM m v := by
  obtain ⟨q1, q2, q3, q4, q5, q6, q7⟩ := h
  refine ⟨q1, q2, q3, q4, fun k hk => ?_, q6, q7⟩
  have e' : m.1 193 k = upd (lE v) 0 (lE v 0) k := q5 k hk
  rw [e', upd_at]
  by_cases q : k = 0
  · rw [if_pos q, q]
  · rw [if_neg q]
theorem EM.la (h : EM m v) : EM m (setL v 0 (lE v 0)) := by
  obtain ⟨q1, q2, q3, q4, q5, q6, q7⟩ := h
  refine ⟨q1, q2, q3, q4, fun k hk => ?_, q6, q7⟩
  show m.1 193 k = upd (lE v) 0 (lE v 0) k
  rw [q5 k hk, upd_at]
  by_cases q : k = 0
  · rw [if_pos q, q]
  · rw [if_neg q]
end LWG
end
section
/-! CALLS: judge -/
def GE (g g' : GS) : Prop := g.1 = g'.1 ∧ g.2.1 = g'.2.1 ∧ g.2.2.1 = g'.2.2.1
/-- a game that is told by the number c can be one -/
abbrev jOK (n c : Nat) : Prop := c / 100 ≤ 2 ∧ c / 10 % 10 < c % 10 ∧ c % 10 < n
def jdS (v : EV) (c : Nat) (g : GS) : GS := stlG true v (c / 10 % 10) (c % 10) (wnG v g (c / 10 % 10) (c % 10) (nI (c / 100))) g
def jdF (v : EV) (cd : Nat → Nat) : Nat → Nat → GS → Int32
  | 0, _, _ => -2
  | j + 1, k, g => if jOK (nE v) (cd k) then jdF v cd j (k + 1) (jdS v (cd k) g) else nI k
def cdG (x : Int32) (k : Nat) : Nat := ((x.toUInt32 >>> ((nI (10 * k)).toUInt32 &&& Int32.toUInt32 31)).toInt32 &&& (1023 : Int32)).toNatClampNeg
def jdA (v : EV) (x1 x2 : Int32) (g : GS) : Int32 := if 0 ≤ x1.toInt ∧ x1.toInt ≤ 3 then jdF v (cdG x2) x1.toNatClampNeg 0 g else -1
section GEE
variable {g g' : GS} {v : EV} {a b : Nat} {x th : Int32} {cn : Bool}
theorem wnG_E (h : GE g g') : wnG v g a b th = wnG v g' a b th := by
  unfold wnG pwG
  rw [h.1, h.2.1, h.2.2]
theorem thG_E : GE (thG th a b g) g := ⟨rfl, rfl, rfl⟩
theorem ptG_E (h : GE g g') : GE (ptG a b x g) (ptG a b x g') := by
  obtain ⟨g1, g2, g3, g4⟩ := g
  obtain ⟨k1, k2, k3, k4⟩ := g'
  obtain ⟨h1, h2, h3⟩ := h
  dsimp only at h1 h2 h3
  subst h1 h2 h3
  exact ⟨rfl, rfl, rfl⟩
theorem tchG_E (h : GE g g') : GE (tchG cn v a b g) (tchG cn v a b g') := by
  obtain ⟨g1, g2, g3, g4⟩ := g
  obtain ⟨k1, k2, k3, k4⟩ := g'
  obtain ⟨h1, h2, h3⟩ := h
  dsimp only at h1 h2 h3
  subst h1 h2 h3
  unfold tchG gainG
  dsimp only
  by_cases c : artG g1 a b (aE v) = -1
  · rw [if_pos c, if_pos c]
    exact ⟨rfl, rfl, rfl⟩
  · rw [if_neg c, if_neg c]
    exact ⟨rfl, rfl, rfl⟩
theorem stlG_E (h : GE g g') : GE (stlG cn v a b x g) (stlG cn v a b x g') := by
  have hp : GE (if cn = true then ptG a b x g else g) (if cn = true then ptG a b x g' else g') := by
    by_cases c : cn = true
    · rw [if_pos c, if_pos c]
      exact ptG_E h
    · rw [if_neg c, if_neg c]
      exact h
  unfold stlG
  generalize (if cn = true then ptG a b x g else g) = p at hp
  generalize (if cn = true then ptG a b x g' else g') = p' at hp
  by_cases c2 : x = 2
  · rw [if_pos c2, if_pos c2]
    exact hp
  · rw [if_neg c2, if_neg c2]
    generalize (if x = 0 then a else b) = wi
    generalize (if x = 0 then b else a) = lo
    have h1 : GE (stl1 cn v wi lo p) (stl1 cn v wi lo p') := by
      unfold stl1
      by_cases c : lE v 0 = 0 ∨ lE v 0 = 2
      · rw [if_pos c, if_pos c]
        exact tchG_E hp
      · rw [if_neg c, if_neg c]
        exact hp
    unfold stl2
    by_cases c : lE v 0 = 1 ∨ lE v 0 = 2
    · rw [if_pos c, if_pos c]
      exact tchG_E h1
    · rw [if_neg c, if_neg c]
      exact h1
theorem jdS_E {c : Nat} (h : GE g g') : GE (jdS v c g) (jdS v c g') := by
  unfold jdS
  rw [wnG_E h]
  exact stlG_E h
theorem jdF_E {cd : Nat → Nat} : ∀ (j k : Nat) (g g' : GS), GE g g' → jdF v cd j k g = jdF v cd j k g' := by
  intro j
  induction j with
  | zero => intro k g g' _; rfl
  | succ j ih =>
    intro k g g' h
    show (if jOK (nE v) (cd k) then jdF v cd j (k + 1) (jdS v (cd k) g) else nI k) = (if jOK (nE v) (cd k) then jdF v cd j (k + 1) (jdS v (cd k) g') else nI k)
    rw [ih (k + 1) _ _ (jdS_E h)]
end GEE
section JDG
variable {ad : Nat → Nat} {d : Nat} {m m0 : Wm} {g : GS} {v : EV} {H : List GS}
theorem nI_dv {a b : Nat} (ha : a < 2147483648) (hb : b < 2147483648) : nI a / nI b = nI (a / b) := by
  have h := Nat.div_le_self a b
  refine (fa_eq _ _).mpr ?_
  rw [Int32.toInt_div, nI_toInt ha, nI_toInt hb, nI_toInt (by omega)]
  have e : (a : Int).tdiv (b : Int) = ((a / b : Nat) : Int) := rfl
  rw [e]
  generalize a / b = q at h ⊢
  exact bm32 (by omega) (by omega)
theorem dv10 {a : Nat} (ha : a < 2147483648) : nI a / (10 : Int32) = nI (a / 10) := nI_dv (b := 10) ha (by decide)
theorem dv100 {a : Nat} (ha : a < 2147483648) : nI a / (100 : Int32) = nI (a / 100) := nI_dv (b := 100) ha (by decide)
theorem rem10 {a : Nat} (ha : a < 2147483648) : nI a - nI a / (10 : Int32) * (10 : Int32) = nI (a % 10) := nI_rem (G := 10) ha (by decide) (by decide)
theorem cd_eq (x : Int32) (k : Nat) : ((x.toUInt32 >>> ((nI (10 * k)).toUInt32 &&& Int32.toUInt32 31)).toInt32 &&& (1023 : Int32)) = nI (cdG x k) ∧ cdG x k < 1024 := by
  have h := t_and1023 ((x.toUInt32 >>> ((nI (10 * k)).toUInt32 &&& Int32.toUInt32 31)).toInt32)
  unfold cdG
  generalize ((x.toUInt32 >>> ((nI (10 * k)).toUInt32 &&& Int32.toUInt32 31)).toInt32 &&& (1023 : Int32)) = y at h ⊢
  obtain ⟨j, hj, rfl⟩ := zn_of h.1
  rw [nI_toInt hj] at h
  rw [nI_clamp hj]
  exact ⟨rfl, by omega⟩
theorem b_1023 : ∀ i, i < 32 → bt 1023 i = decide (i < 10) := by decide +kernel
theorem cd_M (x : Int32) {k : Nat} (hk : k ≤ 2) : ((x >>> (nI (10 * k) &&& 31)) &&& (1023 : Int32)) = nI (cdG x k) := by
  rw [← (cd_eq x k).1]
  refine b_ext (fun i hi => ?_)
  rw [b_and, b_and, b_sshr (10 * k) (by omega) x hi, b_ushr (10 * k) (by omega) x i, b_1023 i hi]
  by_cases q : i < 10
  · rw [if_pos (by omega)]
  · rw [decide_eq_false q, Bool.and_false, Bool.and_false]
theorem th_of {c : Nat} (h : c ≤ 2) : nI c = 0 ∨ nI c = 1 ∨ nI c = 2 ∨ nI c = 3 := thr_of (by rw [nI_toInt (by omega)]; omega)
theorem e_told {c : Nat} (hc : c < 1024) (w : WT m) (h : HC 26 m g) (hE : EC m v) : Ct ad μX11_playTold (d + 5) [.ref (ad 0), .int (nI c)] m (fun r m' => WT m' ∧ Fx (RS [2, 5, 14]) m m' ∧ ((jOK (nE v) c ∧ r = some (.int 1) ∧ HC 26 m' (jdS v c g)) ∨ (¬ jOK (nE v) c ∧ r = some (.int 0) ∧ m' = m))) := by
  have n8 := hE.2.2.1
  have hG : GR 5 := Or.inr (Or.inr (Or.inl rfl))
  have no : ¬ jOK (nE v) c → WT m ∧ Fx (RS [2, 5, 14]) m m ∧ ((jOK (nE v) c ∧ some (Value.int 0) = some (.int 1) ∧ HC 26 m (jdS v c g)) ∨ (¬ jOK (nE v) c ∧ some (Value.int 0) = some (.int 0) ∧ m = m)) := fun q => ⟨w, Fx.rf, Or.inr ⟨q, rfl, rfl⟩⟩
  refine v_X11_playTold (d := d + 4) ?_
  rw [rem10 (by omega), dv10 (by omega), rem10 (by omega), dv100 (by omega)]
  refine ⟨fun c2 => no (fun q => ?_), fun c2 => ⟨fun c3 => no (fun q => ?_), fun c3 => (meetC (d := d + 3) hE.1 n8).to ?_⟩⟩
  · have := (lt_l 2 2 rfl (by decide) (by omega)).mp c2
    have := q.1
    omega
  · have := (nI_leI (a := c % 10) (b := c / 10 % 10) (by omega) (by omega)).mp c3
    have := q.2.1
    omega
  · have k2 : c / 100 ≤ 2 := Nat.le_of_not_lt (fun z => c2 ((lt_l 2 2 rfl (by decide) (by omega)).mpr z))
    have k3 : c / 10 % 10 < c % 10 := Nat.lt_of_not_le (fun z => c3 ((nI_leI (a := c % 10) (b := c / 10 % 10) (by omega) (by omega)).mpr z))
    rintro _ m1 ⟨eq, v1, rfl, y1, y2⟩
    obtain rfl := eq.symm
    refine ⟨v1, rfl, fun q => ?_, fun q => no (fun z => ?_)⟩
    · have hT := (y2 q).2.1.2
      rw [nI_toInt (by omega)] at hT
      have hj : jOK (nE v) c := ⟨k2, k3, by omega⟩
      refine (resultC (d := d) SS_26 hG w h hE (by omega) (by omega) (th_of k2)).to ?_
      rintro _ m2 ⟨w2, f2, rfl⟩
      refine ⟨_, rfl, (settleC (d := d + 1) (cn := true) SS_26 hG w2 (h.fx SS_26 f2 rfl) (hE.fx f2 rfl) (by omega) (by omega) (by omega) (by decide)).to ?_⟩
      rintro _ m3 ⟨rfl, w3, f3, h3⟩
      exact ⟨rfl, w3, (Fx.tr Fx.rf f2 (RS_sub rfl)).tr f3 (RS_sub rfl), Or.inl ⟨hj, rfl, h3⟩⟩
    · have z3 := z.2.2
      exact y1 q ⟨InN.nI (by omega) (by omega), InN.nI z3 (by omega), nI_r (by omega) (by omega) (by omega)⟩
/-- the class's judge() -/
def jcQ (v : EV) (m : Wm) (a : Int32) (r : Option Value) (m' : Wm) : Prop := WT m' ∧ Fx (RS [2, 5, 9, 14]) m m' ∧ r = some (.int a)
theorem jc_67 {a : Int32} {m1 : Wm} (w1 : WT m1) (f1 : Fx (RS [2, 5, 14]) m0 m1) : AW ad E0 μX11_judge (d + 6) (jcQ v m0 a) 67 [(0, .ref (ad 0)), (3, .int a)] [] m1 := by
  refine g_X11_judge_67 (d := d + 5) ((s_X1_total (d := d + 3) w1 SS_26).to ?_)
  rintro _ m2 ⟨w2, f2, v2, rfl⟩
  refine ⟨v2, rfl, (s_X1_total (d := d + 3) w2 SS_21).to ?_⟩
  rintro _ m3 ⟨w3, f3, v3, rfl⟩
  refine ⟨v3, rfl, (s_X11_tell w3).to ?_⟩
  rintro _ m4 ⟨w4, f4, rfl⟩
  exact ⟨rfl, w4, (((Fx.tr Fx.rf f1 (RS_sub rfl)).tr f2 (RS_sub rfl)).tr f3 (RS_sub rfl)).tr f4 (RS_sub rfl), rfl⟩
theorem jc_28 {x2 : Int32} {N : Nat} (hN : N ≤ 3) (hE : EC m0 v) : ∀ (j k : Nat) (gC : GS) (m1 : Wm), k + j = N → WT m1 → Fx (RS [2, 5, 14]) m0 m1 → HC 26 m1 gC → AW ad E0 μX11_judge (d + 6) (jcQ v m0 (jdF v (cdG x2) j k gC)) 28 [(0, .ref (ad 0)), (1, .int (nI N)), (2, .int x2), (3, .int (-2)), (4, .int (nI k))] [] m1 := by
  intro j
  induction j with
  | zero =>
    intro k gC m1 hk w1 f1 h1
    exact g_X11_judge_28 (d := d + 5) ⟨fun _ => jc_67 w1 f1, fun c => absurd ((nI_leI (a := N) (b := k) (by omega) (by omega)).mpr (by omega)) c⟩
  | succ j ih =>
    intro k gC m1 hk w1 f1 h1
    obtain ⟨e1, e2⟩ := cd_eq x2 k
    refine g_X11_judge_28 (d := d + 5) ⟨fun c => absurd ((nI_leI (a := N) (b := k) (by omega) (by omega)).mp c) (by omega), fun _ => ⟨fun c => absurd rfl c, fun _ => ?_⟩⟩
    rw [l_mul 10 10 rfl, e1]
    refine (e_told (d := d) e2 w1 h1 (hE.fx f1 rfl)).to ?_
    rintro r m2 ⟨w2, f2, ⟨hj, rfl, h2⟩ | ⟨hj, rfl, e⟩⟩
    · refine ⟨1, rfl, fun _ => ?_, fun z => absurd z (by decide)⟩
      have e3 : jdF v (cdG x2) (j + 1) k gC = jdF v (cdG x2) j (k + 1) (jdS v (cdG x2 k) gC) := if_pos hj
      rw [e3, nI_1]
      exact ih (k + 1) _ m2 (by omega) w2 (f1.tr f2 (fun _ _ h => h)) h2
    · refine ⟨0, rfl, fun z => absurd rfl z, fun _ => ?_⟩
      have e3 : jdF v (cdG x2) (j + 1) k gC = nI k := if_neg hj
      rw [e3, nI_1]
      have F := f1.tr f2 (fun _ _ h => h)
      refine g_X11_judge_28 (d := d + 5) ⟨fun _ => jc_67 w2 F, fun _ => ⟨fun _ => jc_67 w2 F, fun z => ?_⟩⟩
      have h3 := congrArg Int32.toInt z
      rw [nI_toInt (by omega)] at h3
      have z2 : (-2 : Int32).toInt = -2 := rfl
      omega
theorem e_judgeC {x1 x2 : Int32} (w : WT m) (hc : HC 21 m g) (hE : EC m v) : Ct ad μX11_judge (d + 6) [.ref (ad 0), .int x1, .int x2] m (jcQ v m (jdA v x1 x2 g)) := by
  refine v_X11_judge (d := d + 5) ⟨fun c => ⟨w, Fx.rf, ?_⟩, fun c => ⟨fun c2 => (copyC (d := d + 4) w SS_26 SS_21 (Or.inl (by decide)) hc).to ?_, fun c2 => ⟨w, Fx.rf, ?_⟩⟩⟩
  · have := y_ltr (n := 0) rfl c
    unfold jdA
    rw [if_neg (by omega)]
  · have k0 := y_nltr (n := 0) rfl c
    have k3 := y_ler (n := 3) rfl c2
    obtain ⟨N, hN, rfl⟩ := zn_of k0
    rintro _ m1 ⟨rfl, w1, f1, h1⟩
    have ej : jdA v (nI N) x2 g = jdF v (cdG x2) N 0 g := by
      unfold jdA
      rw [if_pos ⟨k0, k3⟩, nI_clamp hN]
    rw [nI_toInt hN] at k3
    rw [ej]
    exact ⟨rfl, jc_28 (d := d) (by omega) hE N 0 g m1 (by omega) w1 (Fx.tr Fx.rf f1 (RS_sub rfl)) h1⟩
  · have := y_nler (n := 3) rfl c2
    unfold jdA
    rw [if_neg (by omega)]
end JDG
/-! CALLS: judge, the model; both -/
section JDM
variable {ad : Nat → Nat} {d : Nat} {m m0 : Wm} {g : GS} {v : EV} {H : List GS}
theorem goG_jd {c : Nat} : GE (jdS v c g) (goG false v (c / 10 % 10) (c % 10) (nI (c / 100)) g) := by
  have nb : ¬ byG false v (nI (c / 100)) := fun z => absurd z.1 (by decide)
  unfold jdS goG wonG drwG
  rw [if_neg nb, if_neg nb]
  exact stlG_E ⟨rfl, rfl, rfl⟩
def jmQ (v : EV) (m : Wm) (g : GS) (a : Int32) (r : Option Value) (m' : Wm) : Prop := WT m' ∧ Fx (RS [20, 22, 24, 26, 28, 30, 49]) m m' ∧ HM (nE v) m' g ∧ r = some (.int a)
theorem jm_138 {a x3 : Int32} {m1 : Wm} (w1 : WT m1) (f1 : Fx (RS [20, 22, 24, 26, 28, 30, 49]) m0 m1) (hL : HL (nE v) 202 0 m1 g) : AW ad E0 μX12_judge (d + 171) (jmQ v m0 g a) 138 [(0, .ref (ad 187)), (3, .int x3), (4, .int a)] [] m1 := by
  refine g_X12_judge_138 (d := d + 170) ((s_X12_sumOfAll (d := d + 169) w1).to ?_)
  rintro _ m2 ⟨w2, f2, v2, rfl⟩
  refine ⟨v2, rfl, (bringH (x := 0) (na := 57) rfl (by decide) (by decide) w2 (hL.fx (ρ := 30) f2 (fun _ => rfl) rfl) (by decide)).to ?_⟩
  rintro _ m3 ⟨rfl, w3, f3, hm3⟩
  have w4 : WT (uI m3 187 16 (0 : Int32)) := w3.t rfl (by decide) (by decide)
  have f4 : Fx (RS [26]) m3 (uI m3 187 16 (0 : Int32)) := Fx.rf.i rfl
  have e16 : ((uI m3 187 16 (0 : Int32)).1 187 16).toInt = 0 := by
    rw [u_eq]
    rfl
  refine ⟨rfl, (s_X12_tell w4 (by omega)).to ?_⟩
  rintro _ m5 ⟨w5, f5, rfl, -⟩
  exact ⟨rfl, w5, (((f1.tr f2 (RS_sub rfl)).tr f3 (RS_sub rfl)).tr f4 (RS_sub rfl)).tr f5 (RS_sub rfl), (hm3.fx f4 rfl rfl).fx f5 rfl rfl, rfl⟩
set_option maxHeartbeats 1000000 in
theorem jm_40 {x2 x3 : Int32} {N : Nat} (hN : N ≤ 3) (n8 : nE v ≤ 8) : ∀ (j k : Nat) (gM : GS) (m1 : Wm), k + j = N → WT m1 → Fx (RS [20, 22, 24, 26, 28, 30, 49]) m0 m1 → HM (nE v) m1 gM → EM m1 v → HL (nE v) 202 0 m1 g → AW ad E0 μX12_judge (d + 171) (jmQ v m0 g (jdF v (cdG x2) j k gM)) 40 [(0, .ref (ad 187)), (1, .int (nI N)), (2, .int x2), (3, .int x3), (4, .int (-2)), (5, .int (nI k))] [] m1 := by
  intro j
  induction j with
  | zero =>
    intro k gM m1 hk w1 f1 hm em hL
    exact g_X12_judge_40 (d := d + 170) ⟨fun _ => jm_138 w1 f1 hL, fun c => absurd ((nI_leI (a := N) (b := k) (by omega) (by omega)).mpr (by omega)) c⟩
  | succ j ih =>
    intro k gM m1 hk w1 f1 hm em hL
    have e2 := (cd_eq x2 k).2
    have bad : ¬ jOK (nE v) (cdG x2 k) → AW ad E0 μX12_judge (d + 171) (jmQ v m0 g (jdF v (cdG x2) (j + 1) k gM)) 40 [(0, .ref (ad 187)), (1, .int (nI N)), (2, .int x2), (3, .int x3), (4, .int (nI k)), (5, .int (nI k + (1 : Int32)))] [] m1 := fun hj => by
      have e3 : jdF v (cdG x2) (j + 1) k gM = nI k := if_neg hj
      rw [e3, nI_1]
      refine g_X12_judge_40 (d := d + 170) ⟨fun _ => jm_138 w1 f1 hL, fun _ => ⟨fun _ => jm_138 w1 f1 hL, fun z => ?_⟩⟩
      have h3 := congrArg Int32.toInt z
      rw [nI_toInt (by omega)] at h3
      have z2 : (-2 : Int32).toInt = -2 := rfl
      omega
    refine g_X12_judge_40 (d := d + 170) ⟨fun c => absurd ((nI_leI (a := N) (b := k) (by omega) (by omega)).mp c) (by omega), fun _ => ⟨fun c => absurd rfl c, fun _ => ?_⟩⟩
    rw [l_mul 10 10 rfl, cd_M x2 (k := k) (by omega), rem10 (by omega), dv10 (by omega), rem10 (by omega), dv100 (by omega)]
    refine ⟨fun c2 => bad (fun q => ?_), fun c2 => (twoM (d := d + 168) em.1 n8).to ?_⟩
    · have := (lt_l 2 2 rfl (by decide) (by omega)).mp c2
      have := q.1
      omega
    · have k2 : cdG x2 k / 100 ≤ 2 := Nat.le_of_not_lt (fun z => c2 ((lt_l 2 2 rfl (by decide) (by omega)).mpr z))
      rintro _ m2 ⟨eq, v2, rfl, y1, y2⟩
      obtain rfl := eq.symm
      refine ⟨v2, rfl, fun q => bad (fun z => ?_), fun q => ⟨fun c3 => ?_, fun c3 => bad (fun z => ?_)⟩⟩
      · have z2 := z.2.1
        have z3 := z.2.2
        exact y1 q ⟨InN.nI (by omega) (by omega), InN.nI z3 (by omega), nI_r (by omega) (by omega) (by omega)⟩
      · have hT := (y2 q).2.1.2
        rw [nI_toInt (by omega)] at hT
        have k3 := (nI_leI (a := cdG x2 k / 10 % 10) (b := cdG x2 k % 10) (by omega) (by omega)).mp c3
        have k4 : cdG x2 k / 10 % 10 ≠ cdG x2 k % 10 := fun z => (y2 q).2.2 (by rw [z])
        have hj : jOK (nE v) (cdG x2 k) := ⟨k2, by omega, by omega⟩
        refine (goGameM (d := d) (lk := false) w1 hm em (a := cdG x2 k / 10 % 10) (e := cdG x2 k % 10) (by omega) (by omega) k4 (th_of k2) (by decide)).to ?_
        rintro _ m3 ⟨w3, f3, rfl, hm3⟩
        refine ⟨_, rfl, ?_⟩
        have e3 : jdF v (cdG x2) (j + 1) k gM = jdF v (cdG x2) j (k + 1) (jdS v (cdG x2 k) gM) := if_pos hj
        rw [e3, jdF_E j (k + 1) _ _ goG_jd, nI_1]
        exact ih (k + 1) _ m3 (by omega) w3 (f1.tr f3 (RS_sub rfl)) hm3 (em.fx f3 rfl) (hL.fx (ρ := 30) f3 (fun _ => rfl) rfl)
      · have z2 := z.2.1
        exact c3 ((nI_leI (a := cdG x2 k / 10 % 10) (b := cdG x2 k % 10) (by omega) (by omega)).mpr (by omega))
theorem e_judgeM {x1 x2 : Int32} (w : WT m) (hm : HM (nE v) m g) (em : EM m v) (n8 : nE v ≤ 8) : Ct ad μX12_judge (d + 171) [.ref (ad 187), .int x1, .int x2] m (jmQ v m g (jdA v x1 x2 g)) := by
  have w0 : WT (uI m 187 17 0) := w.n rfl
  have f0 : Fx (RS [20]) m (uI m 187 17 0) := Fx.rf.i rfl
  have em0 : EM (uI m 187 17 0) v := em.fx f0 rfl
  have hm0 : HM (nE v) (uI m 187 17 0) g := hm
  have z3 : (3 : Int32).toInt = 3 := rfl
  have z0 : (0 : Int32).toInt = 0 := rfl
  refine v_X12_judge (d := d + 170) ((inM (x := x1) (lo := 0) (hi := 3) rfl rfl).to ?_)
  rintro _ m1 ⟨eq, v1, rfl, y1, y2⟩
  obtain rfl := eq.symm
  refine ⟨v1, rfl, fun q => ?_, fun q => ⟨w0, Fx.tr Fx.rf f0 (RS_sub rfl), hm0, ?_⟩⟩
  · have y3 := y2 q
    obtain ⟨N, hN, rfl⟩ := zn_of (x := x1) (by omega)
    have ej : jdA v (nI N) x2 g = jdF v (cdG x2) N 0 g := by
      unfold jdA
      rw [if_pos (by omega), nI_clamp hN]
    rw [nI_toInt hN] at y3
    rw [ej]
    refine (layH (x := 0) (na := 57) (reg := 30) rfl (by decide) (by decide) (fun _ => rfl) (fun _ => rfl) w0 hm0 n8 (by decide)).to ?_
    rintro _ m3 ⟨rfl, w3, f3, hL3, -, -⟩
    refine ⟨rfl, (s_X12_sumOfAll (d := d + 169) w3).to ?_⟩
    rintro _ m4 ⟨w4, f4, v4, rfl⟩
    exact ⟨v4, rfl, jm_40 (d := d) (m0 := m) (by omega) n8 N 0 g m4 (by omega) w4 (((Fx.tr Fx.rf f0 (RS_sub rfl)).tr f3 (RS_sub rfl)).tr f4 (RS_sub rfl)) ((hm0.fx f3 rfl rfl).fx f4 rfl rfl) ((em0.fx f3 rfl).fx f4 rfl) (hL3.fx (ρ := 30) f4 (fun _ => rfl) rfl)⟩
  · unfold jdA
    rw [if_neg (fun z => y1 q (by omega))]
theorem og_judge (c : Nat) (a b : Int32) : Both ad d μX11_judge μX12_judge [.int a, .int b] (InvK (KX KG c)) (InvK (KX KG (c + 1))) := fun m I => by
  obtain ⟨w, I1, ⟨g, v, H, kd⟩, kb⟩ := I
  have n8 := kd.2.2.1.2.2.1
  refine (e_judgeC (d := d + 294) w kd.1 kd.2.2.1).to ?_
  rintro _ m1 ⟨w1, f1, rfl⟩
  have kd1 := kd.fx f1 rfl
  refine ⟨_, rfl, (e_judgeM (d := d + 129) (x1 := a) (x2 := b) w1 kd1.2.1 kd1.2.2.2.1 n8).to ?_⟩
  rintro _ m2 ⟨w2, f2, hm2, rfl⟩
  exact ⟨rfl, w2, I1.f2 f1 f2 rfl rfl, ⟨g, v, H, kd1.hms f2 rfl hm2⟩, KB.fd c f1 f2 kb rfl rfl⟩
end JDM
/-! CALLS: game -/
section GME
variable {ad : Nat → Nat} {d : Nat} {m m0 : Wm} {g : GS} {v : EV} {H : List GS}
def gmQ (m : Wm) (a : Int32) (r : Option Value) (m' : Wm) : Prop := WT m' ∧ Fx (RS [20, 22, 26, 28]) m m' ∧ r = some (.int a)
theorem gm_150 {x4 x5 x6 : Int32} (w : WT m) (f : Fx (RS [20, 22, 26, 28]) m0 m) (h16 : (m.1 187 16).toInt = 0) : AW ad E0 μX12_game (d + 300) (gmQ m0 x4) 150 [(0, .ref (ad 187)), (4, .int x4), (5, .int x5), (6, .int x6)] [] m := by
  refine g_X12_game_150 (d := d + 299) ((s_X12_tell w (by omega)).to ?_)
  rintro _ m1 ⟨w1, f1, rfl, p1⟩
  have p1' : (m1.1 187 16).toInt = (m.1 187 16).toInt + 1 := p1
  refine ⟨rfl, (s_X12_tell w1 (by omega)).to ?_⟩
  rintro _ m2 ⟨w2, f2, rfl, -⟩
  exact ⟨rfl, w2, (f.tr f1 (RS_sub rfl)).tr f2 (RS_sub rfl), rfl⟩
theorem gm_116 {x4 : Int32} {s t : Nat} (w : WT m) (f : Fx (RS [20, 22, 26, 28]) m0 m) (h16 : (m.1 187 16).toInt = 0) (hm : HM (nE v) m g) (em : EM m v) (hs : s < nE v) (ht : t < nE v) : AW ad E0 μX12_game (d + 300) (gmQ m0 x4) 116 [(0, .ref (ad 187)), (4, .int x4), (8, .int (nI s))] [.int (nI t)] m := by
  have a4 := em.2.2.2.1
  refine g_X12_game_116 (d := d + 299) ((artM (d := d + 299) hm em hs ht).to ?_)
  rintro _ m1 ⟨eq, rfl⟩
  obtain rfl := eq.symm
  refine ⟨_, rfl, fun c => ?_, fun _ => gm_150 w f h16⟩
  rcases artG_of (s := g.1) (f := s) (t := t) (n := aE v) with q | ⟨a, ha, q⟩
  · exact absurd q c
  · rw [q]
    refine (gainM (d := d + 298) hm em hs ht (a := a) (by omega)).to ?_
    rintro _ m1 ⟨eq, rfl⟩
    obtain rfl := eq.symm
    exact ⟨_, rfl, gm_150 w f h16⟩
theorem gm_92 {x4 s0 : Int32} {s t : Nat} (w : WT m) (f : Fx (RS [20, 22, 26, 28]) m0 m) (h16 : (m.1 187 16).toInt = 0) (hm : HM (nE v) m g) (em : EM m v) (hs : s < nE v) (ht : t < nE v) : AW ad E0 μX12_game (d + 300) (gmQ m0 x4) 92 [(0, .ref (ad 187)), (1, .int (nI s)), (2, .int (nI t)), (4, .int x4)] [.int s0] m :=
  g_X12_game_92 (d := d + 299) ⟨fun q => ⟨fun _ => gm_116 w f h16 hm em ht hs, fun z => absurd q z⟩, fun q => ⟨fun z => absurd z q, fun _ => gm_116 w f h16 hm em hs ht⟩⟩
theorem gm_69 {x4 s0 : Int32} {s t : Nat} (w : WT m) (f : Fx (RS [20, 22, 26, 28]) m0 m) (h16 : (m.1 187 16).toInt = 0) (hm : HM (nE v) m g) (em : EM m v) (hs : s < nE v) (ht : t < nE v) : AW ad E0 μX12_game (d + 300) (gmQ m0 x4) 69 [(0, .ref (ad 187)), (1, .int (nI s)), (2, .int (nI t)), (4, .int x4)] [.int s0] m :=
  g_X12_game_69 (d := d + 299) ⟨fun _ => ⟨fun _ => gm_92 w f h16 hm em hs ht, fun _ => gm_92 w f h16 hm em hs ht⟩, fun _ => ⟨fun _ => gm_92 w f h16 hm em hs ht, fun _ => gm_92 w f h16 hm em hs ht⟩⟩
theorem e_gameM {s t : Nat} {th : Int32} (w : WT m) (hm : HM (nE v) m g) (em : EM m v) (hs : s < nE v) (ht : t < nE v) (hst : s ≠ t) (hth : 0 ≤ th.toInt ∧ th.toInt ≤ 3) : Ct ad μX12_game (d + 300) [.ref (ad 187), .int (nI s), .int (nI t), .int th] m (gmQ m (wnG v g s t th)) := by
  have n8 := em.2.2.1
  have w0 : WT (uI m 187 17 0) := w.n rfl
  have f0 : Fx (RS [20]) m (uI m 187 17 0) := Fx.rf.i rfl
  have em0 : EM (uI m 187 17 0) v := em.fx f0 rfl
  have hm0 : HM (nE v) (uI m 187 17 0) g := hm
  have P : Two (nE v) (nI s) (nI t) := ⟨InN.nI hs (by omega), InN.nI ht (by omega), nI_r (by omega) (by omega) hst⟩
  refine v_X12_game (d := d + 299) ((twoM (d := d + 297) em0.1 n8).to ?_)
  rintro _ m1 ⟨eq, v1, rfl, y1, y2⟩
  obtain rfl := eq.symm
  refine ⟨v1, rfl, fun z => absurd P (y1 z), fun _ => (thrM (d := d + 298)).to ?_⟩
  rintro _ m1 ⟨eq, v2, rfl, y3, y4⟩
  obtain rfl := eq.symm
  refine ⟨v2, rfl, fun _ => (winnerM (d := d + 130) w0 hm0 em0 hs ht).to ?_, fun z => absurd hth (y3 z)⟩
  rintro _ m2 ⟨w2, f2, rfl⟩
  have w3 : WT (uI m2 187 16 (0 : Int32)) := w2.t rfl (by decide) (by decide)
  have f3 : Fx (RS [26]) m2 (uI m2 187 16 (0 : Int32)) := Fx.rf.i rfl
  have F : Fx (RS [20, 22, 26, 28]) m (uI m2 187 16 (0 : Int32)) := ((Fx.tr Fx.rf f0 (RS_sub rfl)).tr f2 (RS_sub rfl)).tr f3 (RS_sub rfl)
  have h16 : ((uI m2 187 16 (0 : Int32)).1 187 16).toInt = 0 := by
    rw [u_eq]
    rfl
  have hm3 : HM (nE v) (uI m2 187 16 (0 : Int32)) g := (hm0.fx f2 rfl rfl).fx f3 rfl rfl
  have em3 : EM (uI m2 187 16 (0 : Int32)) v := (em0.fx f2 rfl).fx f3 rfl
  exact ⟨_, rfl, fun _ => gm_150 w3 F h16, fun _ => ⟨fun _ => gm_150 w3 F h16, fun _ => ⟨fun _ => gm_69 w3 F h16 hm3 em3 hs ht, fun _ => gm_69 w3 F h16 hm3 em3 hs ht⟩⟩⟩
theorem og_game (c : Nat) (a b th : Int32) : Both ad d μX11_game μX12_game [.int a, .int b, .int th] (InvK (KX KG c)) (InvK (KX KG (c + 1))) := fun m I => by
  have J := J17 I
  obtain ⟨w, I1, ⟨g, v, H, kd⟩, kb⟩ := I
  have kd0 := kd
  obtain ⟨hc, hm, ec, em, -⟩ := kd0
  have n8 := ec.2.2.1
  have z3 : (3 : Int32).toInt = 3 := rfl
  by_cases P : Two (nE v) a b ∧ (0 ≤ th.toInt ∧ th.toInt ≤ 3)
  · obtain ⟨P1, P2⟩ := P
    have P0 := P1
    obtain ⟨s, hs, rfl⟩ := P1.1.of
    obtain ⟨t, ht, rfl⟩ := P1.2.1.of
    have hst : s ≠ t := fun q => P1.2.2 (by rw [q])
    have hth := thr_of P2
    have hG : GR 5 := Or.inr (Or.inr (Or.inl rfl))
    refine v_X11_game (d := d + 299) ((meetC (d := d + 298) ec.1 n8).to ?_)
    rintro _ m1 ⟨eq, v1, rfl, y1, y2⟩
    obtain rfl := eq.symm
    refine ⟨v1, rfl, fun z => absurd P0 (y1 z), fun _ => ⟨fun q => absurd (y_ltr (n := 0) rfl q) (by omega), fun _ => ⟨fun _ => (copyC (d := d + 298) w SS_26 SS_21 (Or.inl (by decide)) hc).to ?_, fun q => absurd (z_nle q) (by omega)⟩⟩⟩
    rintro _ m1 ⟨rfl, w1, f1, h1⟩
    refine ⟨rfl, (resultC (d := d + 295) SS_26 hG w1 h1 (ec.fx f1 rfl) (by omega) (by omega) hth).to ?_⟩
    rintro _ m2 ⟨w2, f2, rfl⟩
    refine ⟨_, rfl, (settleC (d := d + 296) (cn := false) SS_26 hG w2 (h1.fx SS_26 f2 rfl) ((ec.fx f1 rfl).fx f2 rfl) (by omega) (by omega) hst (by decide)).to ?_⟩
    rintro _ m3 ⟨rfl, w3, f3, -⟩
    refine ⟨rfl, (s_X11_tell_ w3).to ?_⟩
    rintro _ m4 ⟨w4, f4, rfl⟩
    have F : Fx (RS [2, 5, 9, 14]) m m4 := (((Fx.tr Fx.rf f1 (RS_sub rfl)).tr f2 (RS_sub rfl)).tr f3 (RS_sub rfl)).tr f4 (RS_sub rfl)
    have kd4 := kd.fx F rfl
    refine ⟨rfl, _, rfl, (e_gameM (d := d) w4 kd4.2.1 kd4.2.2.2.1 hs ht hst P2).to ?_⟩
    rintro _ m5 ⟨w5, f5, rfl⟩
    exact ⟨rfl, w5, I1.f2 F f5 rfl rfl, ⟨g, v, H, kd4.fx f5 rfl⟩, KB.fd c F f5 kb rfl rfl⟩
  · have e1 : (uI m 187 17 0).1 187 1 = nI (nE v) := em.1
    have hM : Ct ad μX12_game (d + 300) [.ref (ad 187), .int a, .int b, .int th] m (fun r m2 => r = some (.int (-1)) ∧ InvK (KX KG (c + 1)) m2) := by
      refine v_X12_game (d := d + 299) ((twoM (d := d + 297) e1 n8).to ?_)
      rintro _ m2 ⟨eq, v3, rfl, x1, x2⟩
      obtain rfl := eq.symm
      refine ⟨v3, rfl, fun _ => ⟨rfl, J⟩, fun q => (thrM (d := d + 298)).to ?_⟩
      rintro _ m2 ⟨eq, v4, rfl, x3, x4⟩
      obtain rfl := eq.symm
      exact ⟨v4, rfl, fun q2 => absurd ⟨x2 q, x4 q2⟩ P, fun _ => ⟨rfl, J⟩⟩
    refine v_X11_game (d := d + 299) ((meetC (d := d + 298) ec.1 n8).to ?_)
    rintro _ m1 ⟨eq, v1, rfl, y1, y2⟩
    obtain rfl := eq.symm
    refine ⟨v1, rfl, fun z => ⟨_, rfl, hM⟩, fun q => ⟨fun _ => ⟨_, rfl, hM⟩, fun q2 => ⟨fun q3 => absurd ⟨y2 q, ?_⟩ P, fun _ => ⟨_, rfl, hM⟩⟩⟩⟩
    have := y_nltr (n := 0) rfl q2
    have := z_le q3
    omega
end GME
/-! CALLS: prize, master -/
/-- the first of those with the most -/
def bsF (f : Nat → Int32) : Nat → Nat
  | 0 => 0
  | k + 1 => if f k ≤ f (bsF f k) then bsF f k else k
theorem bsF_lt {f : Nat → Int32} {n : Nat} (hn : 0 < n) : ∀ k, k ≤ n → bsF f k < n := by
  intro k
  induction k with
  | zero => intro _; exact hn
  | succ k ih =>
    intro h
    have e : bsF f (k + 1) = if f k ≤ f (bsF f k) then bsF f k else k := rfl
    rw [e]
    by_cases c : f k ≤ f (bsF f k)
    · rw [if_pos c]
      exact ih (by omega)
    · rw [if_neg c]
      omega
theorem bsF_p {f : Nat → Int32} {k : Nat} (c : f k ≤ f (bsF f k)) : bsF f (k + 1) = bsF f k := if_pos c
theorem bsF_n {f : Nat → Int32} {k : Nat} (c : ¬ f k ≤ f (bsF f k)) : bsF f (k + 1) = k := if_neg c
section PRZ
variable {ad : Nat → Nat} {d n : Nat} {m : Wm} {g : GS} {v : EV} {H : List GS}
theorem inN_of {n : Nat} {x : Int32} (h : InN n x) : 0 ≤ x.toInt ∧ x.toInt < n := h
theorem ninN_of {n : Nat} {x : Int32} (h : ¬ InN n x) : ¬ (0 ≤ x.toInt ∧ x.toInt < n) := h
def przA (n : Nat) (g : GS) : Int32 := if n = 0 then -2 else nI (bsF g.2.2.1 n)
theorem e_prizeC (w : WT m) (hc : HC 21 m g) (hn : m.1 3 3 = nI n) (n8 : n ≤ 8) : Ct ad μX11_prize (d + 1) [.ref (ad 0)] m (fun r m' => WT m' ∧ Fx (RS [9]) m m' ∧ r = some (.int (przA n g))) := by
  refine v_X11_prize ⟨fun c => ?_, fun c => ⟨w, Fx.rf, ?_⟩⟩
  · have hn0 : 0 < n := Nat.pos_of_ne_zero (fun z => c (by rw [hn, z]; rfl))
    have ea : przA n g = nI (bsF g.2.2.1 n) := if_neg (by omega)
    have L : ∀ (j k : Nat) (x2 : Int32), k + j = n → AW ad E0 μX11_prize (d + 1) (fun r m' => WT m' ∧ Fx (RS [9]) m m' ∧ r = some (.int (przA n g))) 19 [(0, .ref (ad 0)), (1, .int (nI (bsF g.2.2.1 k))), (2, .int x2), (3, .int (nI k))] [] m := by
      intro j
      induction j with
      | zero =>
        intro k x2 hk
        obtain rfl : k = n := hk
        have hb := bsF_lt (f := g.2.2.1) hn0 k (Nat.le_refl _)
        refine g_X11_prize_19 ⟨fun _ => ⟨nat_in (by omega) (by decide), (s_X11_tell_ w).to ?_⟩, fun z => absurd (by rw [hn]; exact (nI_leI (a := k) (b := k) (by omega) (by omega)).mpr (Nat.le_refl _)) z⟩
        rintro _ m1 ⟨w1, f1, rfl⟩
        exact ⟨rfl, w1, f1, by rw [ea]⟩
      | succ j ih =>
        intro k x2 hk
        have hb := bsF_lt (f := g.2.2.1) hn0 k (by omega)
        have e1 : m.1 24 k = g.2.2.1 k := hc.2.2.1 k (by omega)
        have e2 : m.1 24 (bsF g.2.2.1 k) = g.2.2.1 (bsF g.2.2.1 k) := hc.2.2.1 _ (by omega)
        refine g_X11_prize_19 ⟨fun z => absurd (by rw [hn] at z; exact (nI_leI (a := n) (b := k) (by omega) (by omega)).mp z) (by omega), fun _ => ?_⟩
        rw [nI_clamp (by omega), nI_clamp (by omega), e1, e2, nI_1]
        refine ⟨nat_in (by omega) (by decide), nat_in (by omega) (by decide), nat_in (by omega) (by decide), fun q => ?_, fun q => ?_⟩
        · have := ih (k + 1) (x2 + g.2.2.1 k) (by omega)
          rw [bsF_p q] at this
          exact this
        · have := ih (k + 1) (x2 + g.2.2.1 k) (by omega)
          rw [bsF_n q] at this
          exact this
    exact L n 0 0 (by omega)
  · have hn0 : n = 0 := (nI_eq (a := n) (b := 0) (by omega) (by omega)).mp (hn.symm.trans c)
    unfold przA
    rw [if_pos hn0]
theorem e_prizeM (w : WT m) (hm : HM n m g) (hn : m.1 187 1 = nI n) (n8 : n ≤ 8) : Ct ad μX12_prize (d + 1) [.ref (ad 187)] m (fun r m' => WT m' ∧ Fx (RS [20, 26]) m m' ∧ r = some (.int (przA n g))) := by
  have w0 : WT (uI m 187 17 0) := w.n rfl
  have f0 : Fx (RS [20, 26]) m (uI m 187 17 0) := Fx.rf.i rfl
  have s0 : (uI m 187 17 0).1 187 1 = nI n := hn
  have hm0 : HM n (uI m 187 17 0) g := hm
  refine v_X12_prize ?_
  generalize uI m 187 17 0 = m1 at w0 f0 s0 hm0 ⊢
  refine ⟨fun c => ?_, fun c => ⟨w0, f0, ?_⟩⟩
  · have hn0 : 0 < n := Nat.pos_of_ne_zero (fun z => c (by rw [s0, z]; rfl))
    have ea : przA n g = nI (bsF g.2.2.1 n) := if_neg (by omega)
    have L : ∀ (j k : Nat) (x2 : Int32), k + j = n → AW ad E0 μX12_prize (d + 1) (fun r m' => WT m' ∧ Fx (RS [20, 26]) m m' ∧ r = some (.int (przA n g))) 21 [(0, .ref (ad 187)), (1, .int (nI (bsF g.2.2.1 k))), (2, .int x2), (3, .int (nI k))] [] m1 := by
      intro j
      induction j with
      | zero =>
        intro k x2 hk
        obtain rfl : k = n := hk
        have hb := bsF_lt (f := g.2.2.1) hn0 k (Nat.le_refl _)
        have w2 : WT (uI m1 187 16 (0 : Int32)) := w0.t rfl (by decide) (by decide)
        have e16 : ((uI m1 187 16 (0 : Int32)).1 187 16).toInt = 0 := by
          rw [u_eq]
          rfl
        refine g_X12_prize_21 ⟨fun _ => ⟨nat_in (by omega) (by decide), (s_X12_tell w2 (by omega)).to ?_⟩, fun z => absurd (by rw [s0]; exact (nI_leI (a := k) (b := k) (by omega) (by omega)).mpr (Nat.le_refl _)) z⟩
        rintro _ m3 ⟨w3, f3, rfl, p3⟩
        have p3' : (m3.1 187 16).toInt = ((uI m1 187 16 (0 : Int32)).1 187 16).toInt + 1 := p3
        refine ⟨rfl, (s_X12_tell w3 (by omega)).to ?_⟩
        rintro _ m4 ⟨w4, f4, rfl, -⟩
        exact ⟨rfl, w4, ((f0.i rfl).tr f3 (RS_sub rfl)).tr f4 (RS_sub rfl), by rw [ea]⟩
      | succ j ih =>
        intro k x2 hk
        have hb := bsF_lt (f := g.2.2.1) hn0 k (by omega)
        have e1 : m1.1 191 k = g.2.2.1 k := hm0.2.2.1 k (by omega)
        have e2 : m1.1 191 (bsF g.2.2.1 k) = g.2.2.1 (bsF g.2.2.1 k) := hm0.2.2.1 _ (by omega)
        refine g_X12_prize_21 ⟨fun z => absurd (by rw [s0] at z; exact (nI_leI (a := n) (b := k) (by omega) (by omega)).mp z) (by omega), fun _ => ?_⟩
        rw [nI_clamp (by omega), nI_clamp (by omega), e1, e2, nI_1]
        refine ⟨nat_in (by omega) (by decide), nat_in (by omega) (by decide), nat_in (by omega) (by decide), fun q => ?_, fun q => ?_⟩
        · have := ih (k + 1) (x2 + g.2.2.1 k) (by omega)
          rw [bsF_p q] at this
          exact this
        · have := ih (k + 1) (x2 + g.2.2.1 k) (by omega)
          rw [bsF_n q] at this
          exact this
    exact L n 0 0 (by omega)
  · have hn0 : n = 0 := (nI_eq (a := n) (b := 0) (by omega) (by omega)).mp (s0.symm.trans c)
    unfold przA
    rw [if_pos hn0]
/-- a call that both sides answer out of what stands, and that leaves it so -/
theorem og_s {μ μ' : MI} {as : List Value} {c : Nat} {A B : List Nat} (hS : ∀ m g v H, WT m → KGd m g v H → ∃ x : Int32, Ct ad μ (d + 300) (.ref (ad 0) :: as) m (fun r m1 => WT m1 ∧ Fx (RS A) m m1 ∧ r = some (.int x)) ∧ ∀ m1, WT m1 → KGd m1 g v H → Ct ad μ' (d + 300) (.ref (ad 187) :: as) m1 (fun r m2 => WT m2 ∧ Fx (RS B) m1 m2 ∧ r = some (.int x)))
    (a1 : (A.all fun x => !(KGL.elem x)) = true) (a2 : (A.all fun x => !(IL.elem x)) = true) (a3 : (A.all fun x => !(KLB.elem x)) = true)
    (b1 : (B.all fun x => !(KGL.elem x)) = true) (b2 : (B.all fun x => !(IL.elem x)) = true) (b3 : (B.all fun x => !(KLB.elem x)) = true) : Both ad d μ μ' as (InvK (KX KG c)) (InvK (KX KG (c + 1))) := fun m I => by
  obtain ⟨w, I1, ⟨g, v, H, kd⟩, kb⟩ := I
  obtain ⟨x, hC, hM⟩ := hS m g v H w kd
  refine hC.to ?_
  rintro _ m1 ⟨w1, f1, rfl⟩
  have kd1 := kd.fx f1 a1
  refine ⟨x, rfl, (hM m1 w1 kd1).to ?_⟩
  rintro _ m2 ⟨w2, f2, rfl⟩
  exact ⟨rfl, w2, I1.f2 f1 f2 a2 b2, ⟨g, v, H, kd1.fx f2 b1⟩, KB.fd c f1 f2 kb a3 b3⟩
theorem og_prize (c : Nat) : Both ad d μX11_prize μX12_prize [] (InvK (KX KG c)) (InvK (KX KG (c + 1))) := og_s (A := [9]) (B := [20, 26]) (fun m g v H w kd => ⟨przA (nE v) g, e_prizeC (d := d + 299) w kd.1 kd.2.2.1.1 kd.2.2.1.2.2.1, fun m1 w1 kd1 => e_prizeM (d := d + 299) w1 kd1.2.1 kd1.2.2.2.1.1 kd1.2.2.1.2.2.1⟩) rfl rfl rfl rfl rfl rfl
/-- the art a, of side s -/
def aG (g : GS) (a s : Nat) : Int32 := g.1 (4 * s + a)
def mstA (n ar : Nat) (x : Int32) (g : GS) : Int32 := if 0 ≤ x.toInt ∧ x.toInt < ar then (if n = 0 then -2 else nI (bsF (aG g x.toNatClampNeg) n)) else -1
theorem e_masterC {ar : Nat} {x1 : Int32} (w : WT m) (hc : HC 21 m g) (hn : m.1 3 3 = nI n) (n8 : n ≤ 8) (ha : m.1 3 4 = nI ar) (a4 : ar ≤ 4) : Ct ad μX11_master (d + 2) [.ref (ad 0), .int x1] m (fun r m' => WT m' ∧ Fx (RS [9]) m m' ∧ r = some (.int (mstA n ar x1 g))) := by
  refine v_X11_master (d := d + 1) ((knowsC (d := d + 1) ha (by omega)).to ?_)
  rintro _ m1 ⟨eq, v1, rfl, y1, y2⟩
  obtain rfl := eq.symm
  refine ⟨v1, rfl, fun q => ?_, fun q => ⟨w, Fx.rf, ?_⟩⟩
  · have hI := y2 q
    obtain ⟨a, ha2, rfl⟩ := hI.of
    refine ⟨fun c => ?_, fun c => ⟨w, Fx.rf, ?_⟩⟩
    · have hn0 : 0 < n := Nat.pos_of_ne_zero (fun z => c (by rw [hn, z]; rfl))
      have ea : mstA n ar (nI a) g = nI (bsF (aG g a) n) := by
        unfold mstA
        rw [if_pos (inN_of hI), if_neg (by omega), nI_clamp (by omega)]
      have hb := bsF_lt (f := aG g a) hn0 n (Nat.le_refl _)
      have L2 : ∀ (x3 x4 : Int32) (j k : Nat) (x5 : Int32), k + j = n → AW ad E0 μX11_master (d + 2) (fun r m' => WT m' ∧ Fx (RS [9]) m m' ∧ r = some (.int (mstA n ar (nI a) g))) 105 [(0, .ref (ad 0)), (1, .int (nI a)), (2, .int (nI (bsF (aG g a) n))), (3, .int x3), (4, .int x4), (5, .int x5), (6, .int (nI k))] [] m := by
        intro x3 x4 j
        induction j with
        | zero =>
          intro k x5 hk
          refine g_X11_master_105 (d := d + 1) ⟨fun _ => (s_X11_tell__ w).to ?_, fun z => absurd (by rw [hn]; exact (nI_leI (a := n) (b := k) (by omega) (by omega)).mpr (by omega)) z⟩
          rintro _ m1 ⟨w1, f1, rfl⟩
          exact ⟨rfl, w1, f1, by rw [ea]⟩
        | succ j ih =>
          intro k x5 hk
          refine g_X11_master_105 (d := d + 1) ⟨fun z => absurd (by rw [hn] at z; exact (nI_leI (a := n) (b := k) (by omega) (by omega)).mp z) (by omega), fun _ => (skillC (d := d + 1) (s := k) SS_21 hc (a := a) (by omega) (by omega)).to ?_⟩
          rintro _ m1 ⟨eq, rfl⟩
          obtain rfl := eq.symm
          rw [nI_1]
          exact ⟨_, rfl, fun _ => ih (k + 1) _ (by omega), fun _ => ih (k + 1) _ (by omega)⟩
      have L : ∀ (j k : Nat) (x3 : Int32), k + j = n → AW ad E0 μX11_master (d + 2) (fun r m' => WT m' ∧ Fx (RS [9]) m m' ∧ r = some (.int (mstA n ar (nI a) g))) 34 [(0, .ref (ad 0)), (1, .int (nI a)), (2, .int (nI (bsF (aG g a) k))), (3, .int x3), (4, .int (nI k))] [] m := by
        intro j
        induction j with
        | zero =>
          intro k x3 hk
          obtain rfl : k = n := hk
          refine g_X11_master_34 (d := d + 1) ⟨fun _ => (skillC (d := d + 1) (s := bsF (aG g a) k) SS_21 hc (a := a) (by omega) (by omega)).to ?_, fun z => absurd (by rw [hn]; exact (nI_leI (a := k) (b := k) (by omega) (by omega)).mpr (Nat.le_refl _)) z⟩
          rintro _ m1 ⟨eq, rfl⟩
          obtain rfl := eq.symm
          exact ⟨_, rfl, L2 x3 _ k 0 0 (by omega)⟩
        | succ j ih =>
          intro k x3 hk
          have hbk := bsF_lt (f := aG g a) hn0 k (by omega)
          refine g_X11_master_34 (d := d + 1) ⟨fun z => absurd (by rw [hn] at z; exact (nI_leI (a := n) (b := k) (by omega) (by omega)).mp z) (by omega), fun _ => (skillC (d := d + 1) (s := k) SS_21 hc (a := a) (by omega) (by omega)).to ?_⟩
          rintro _ m1 ⟨eq, rfl⟩
          obtain rfl := eq.symm
          refine ⟨_, rfl, (skillC (d := d + 1) (s := bsF (aG g a) k) SS_21 hc (a := a) (by omega) (by omega)).to ?_⟩
          rintro _ m1 ⟨eq, rfl⟩
          obtain rfl := eq.symm
          rw [nI_1]
          refine ⟨_, rfl, fun q => ?_, fun q => ?_⟩
          · have := ih (k + 1) (if g.1 (4 * k + a) < x3 then g.1 (4 * k + a) else x3) (by omega)
            rw [bsF_p (f := aG g a) q] at this
            exact this
          · have := ih (k + 1) (if g.1 (4 * k + a) < x3 then g.1 (4 * k + a) else x3) (by omega)
            rw [bsF_n (f := aG g a) q] at this
            exact this
      exact L n 0 7 (by omega)
    · have hn0 : n = 0 := (nI_eq (a := n) (b := 0) (by omega) (by omega)).mp (hn.symm.trans c)
      unfold mstA
      rw [if_pos (inN_of hI), if_pos hn0]
  · unfold mstA
    rw [if_neg (ninN_of (y1 q))]
theorem e_masterM {ar : Nat} {x1 : Int32} (w : WT m) (hm : HM n m g) (hn : m.1 187 1 = nI n) (n8 : n ≤ 8) (ha : m.1 187 0 = nI ar) (a4 : ar ≤ 4) : Ct ad μX12_master (d + 2) [.ref (ad 187), .int x1] m (fun r m' => WT m' ∧ Fx (RS [20, 26]) m m' ∧ r = some (.int (mstA n ar x1 g))) := by
  have w0 : WT (uI m 187 17 0) := w.n rfl
  have f0 : Fx (RS [20, 26]) m (uI m 187 17 0) := Fx.rf.i rfl
  have s0 : (uI m 187 17 0).1 187 1 = nI n := hn
  have r0 : (uI m 187 17 0).1 187 0 = nI ar := ha
  have hm0 : HM n (uI m 187 17 0) g := hm
  refine v_X12_master (d := d + 1) ?_
  generalize uI m 187 17 0 = m1 at w0 f0 s0 r0 hm0 ⊢
  refine (knowM (d := d) r0 (by omega)).to ?_
  rintro _ m2 ⟨eq, v1, rfl, y1, y2⟩
  obtain rfl := eq.symm
  refine ⟨v1, rfl, fun q => ?_, fun q => ⟨w0, f0, ?_⟩⟩
  · have hI := y2 q
    obtain ⟨a, ha2, rfl⟩ := hI.of
    refine ⟨fun c => ?_, fun c => ⟨w0, f0, ?_⟩⟩
    · have hn0 : 0 < n := Nat.pos_of_ne_zero (fun z => c (by rw [s0, z]; rfl))
      have ea : mstA n ar (nI a) g = nI (bsF (aG g a) n) := by
        unfold mstA
        rw [if_pos (inN_of hI), if_neg (by omega), nI_clamp (by omega)]
      have hb := bsF_lt (f := aG g a) hn0 n (Nat.le_refl _)
      have V : ∀ s, s < n → vp_in (nI (4 * s + a)) 32 := fun s hs => nat_in (by omega) (by decide)
      have L2 : ∀ (x3 : Int32) (j k : Nat) (x4 : Int32), k + j = n → AW ad E0 μX12_master (d + 2) (fun r m' => WT m' ∧ Fx (RS [20, 26]) m m' ∧ r = some (.int (mstA n ar (nI a) g))) 97 [(0, .ref (ad 187)), (1, .int (nI a)), (2, .int (nI (bsF (aG g a) n))), (3, .int x3), (4, .int x4), (5, .int (nI k))] [] m1 := by
        intro x3 j
        induction j with
        | zero =>
          intro k x4 hk
          have w2 : WT (uI m1 187 16 (0 : Int32)) := w0.t rfl (by decide) (by decide)
          have e16 : ((uI m1 187 16 (0 : Int32)).1 187 16).toInt = 0 := by
            rw [u_eq]
            rfl
          refine g_X12_master_97 (d := d + 1) ⟨fun _ => ?_, fun z => absurd (by rw [s0]; exact (nI_leI (a := n) (b := k) (by omega) (by omega)).mpr (by omega)) z⟩
          rw [m_ix]
          refine ⟨V _ hb, (s_X12_tell w2 (by omega)).to ?_⟩
          rintro _ m3 ⟨w3, f3, rfl, p3⟩
          have p3' : (m3.1 187 16).toInt = ((uI m1 187 16 (0 : Int32)).1 187 16).toInt + 1 := p3
          refine ⟨rfl, (s_X12_tell w3 (by omega)).to ?_⟩
          rintro _ m4 ⟨w4, f4, rfl, p4⟩
          have p4' : (m4.1 187 16).toInt = (m3.1 187 16).toInt + 1 := p4
          refine ⟨rfl, (s_X12_tell w4 (by omega)).to ?_⟩
          rintro _ m5 ⟨w5, f5, rfl, -⟩
          exact ⟨rfl, w5, (((f0.i rfl).tr f3 (RS_sub rfl)).tr f4 (RS_sub rfl)).tr f5 (RS_sub rfl), by rw [ea]⟩
        | succ j ih =>
          intro k x4 hk
          refine g_X12_master_97 (d := d + 1) ⟨fun z => absurd (by rw [s0] at z; exact (nI_leI (a := n) (b := k) (by omega) (by omega)).mp z) (by omega), fun _ => ?_⟩
          rw [m_ix, m_ix, nI_1]
          exact ⟨V k (by omega), V _ hb, fun _ => ih (k + 1) _ (by omega), fun _ => ih (k + 1) _ (by omega)⟩
      have L : ∀ (j k : Nat) (x3 : Int32), k + j = n → AW ad E0 μX12_master (d + 2) (fun r m' => WT m' ∧ Fx (RS [20, 26]) m m' ∧ r = some (.int (mstA n ar (nI a) g))) 33 [(0, .ref (ad 187)), (1, .int (nI a)), (2, .int (nI (bsF (aG g a) k))), (3, .int x3), (4, .int (nI k))] [] m1 := by
        intro j
        induction j with
        | zero =>
          intro k x3 hk
          obtain rfl : k = n := hk
          exact g_X12_master_33 (d := d + 1) ⟨fun _ => L2 x3 k 0 0 (by omega), fun z => absurd (by rw [s0]; exact (nI_leI (a := k) (b := k) (by omega) (by omega)).mpr (Nat.le_refl _)) z⟩
        | succ j ih =>
          intro k x3 hk
          have hbk := bsF_lt (f := aG g a) hn0 k (by omega)
          have e1 : m1.1 188 (4 * k + a) = aG g a k := hm0.1 _ (by omega)
          have e2 : m1.1 188 (4 * bsF (aG g a) k + a) = aG g a (bsF (aG g a) k) := hm0.1 _ (by omega)
          refine g_X12_master_33 (d := d + 1) ⟨fun z => absurd (by rw [s0] at z; exact (nI_leI (a := n) (b := k) (by omega) (by omega)).mp z) (by omega), fun _ => ?_⟩
          rw [m_ix, m_ix, nI_clamp (by omega), nI_clamp (by omega), e1, e2]
          have T : ∀ b : Nat, bsF (aG g a) (k + 1) = b → AW ad E0 μX12_master (d + 2) (fun r m' => WT m' ∧ Fx (RS [20, 26]) m m' ∧ r = some (.int (mstA n ar (nI a) g))) 69 [(0, .ref (ad 187)), (1, .int (nI a)), (2, .int (nI b)), (3, .int x3), (4, .int (nI k))] [] m1 := fun b hb2 => by
            refine g_X12_master_69 (d := d + 1) ?_
            rw [m_ix, nI_1, ← hb2]
            exact ⟨V k (by omega), ih (k + 1) _ (by omega)⟩
          exact ⟨V k (by omega), V _ hbk, fun q => T _ (bsF_p q), fun q => T _ (bsF_n q)⟩
      exact L n 0 7 (by omega)
    · have hn0 : n = 0 := (nI_eq (a := n) (b := 0) (by omega) (by omega)).mp (s0.symm.trans c)
      unfold mstA
      rw [if_pos (inN_of hI), if_pos hn0]
  · unfold mstA
    rw [if_neg (ninN_of (y1 q))]
theorem og_master (c : Nat) (x1 : Int32) : Both ad d μX11_master μX12_master [.int x1] (InvK (KX KG c)) (InvK (KX KG (c + 1))) := og_s (A := [9]) (B := [20, 26]) (fun m g v H w kd => ⟨mstA (nE v) (aE v) x1 g, e_masterC (d := d + 298) w kd.1 kd.2.2.1.1 kd.2.2.1.2.2.1 kd.2.2.1.2.1 kd.2.2.1.2.2.2.1, fun m1 w1 kd1 => e_masterM (d := d + 298) w1 kd1.2.1 kd1.2.2.2.1.1 kd1.2.2.1.2.2.1 kd1.2.2.2.1.2.1 kd1.2.2.1.2.2.2.1⟩) rfl rfl rfl rfl rfl rfl
end PRZ
end
section
/-! CALLS: beats, kings -/
/-- whom s meets with the result r, of the first k sides -/
def bwF (v : EV) (g : GS) (s : Nat) (r : Int32) : Nat → Int32
  | 0 => 0
  | k + 1 => if k = s then bwF v g s r k else if wnG v g s k 0 = r then bwF v g s r k ||| ((1 : Int32) <<< (nI k &&& 31)) else bwF v g s r k
theorem or_0 (x : Int32) : x ||| (0 : Int32) = x := b_ext (fun i _ => by rw [b_or, b_0, Bool.or_false])
section BTS
variable {ad : Nat → Nat} {d : Nat} {m m0 : Wm} {g : GS} {v : EV} {H : List GS}
theorem bwF_e {s k : Nat} {r : Int32} (h : k = s) : bwF v g s r (k + 1) = bwF v g s r k := if_pos h
theorem bwF_y {s k : Nat} {r : Int32} (h : ¬ k = s) (h2 : wnG v g s k 0 = r) : bwF v g s r (k + 1) = bwF v g s r k ||| ((1 : Int32) <<< (nI k &&& 31)) := (if_neg h).trans (if_pos h2)
theorem bwF_n {s k : Nat} {r : Int32} (h : ¬ k = s) (h2 : ¬ wnG v g s k 0 = r) : bwF v g s r (k + 1) = bwF v g s r k := (if_neg h).trans (if_neg h2)
theorem e_swrC {s : Nat} {r : Int32} (w : WT m) (hc : HC 21 m g) (ec : EC m v) (hs : s < 8) : Ct ad μX11_sidesWithResult (d + 5) [.ref (ad 0), .int (nI s), .int r] m (fun r' m' => WT m' ∧ Fx (RS [14]) m m' ∧ r' = some (.int (bwF v g s r (nE v)))) := by
  have n8 := ec.2.2.1
  have hG : GR 4 := Or.inr (Or.inl rfl)
  have L : ∀ (j k : Nat) (m1 : Wm), k + j = nE v → WT m1 → Fx (RS [14]) m m1 → AW ad E0 μX11_sidesWithResult (d + 5) (fun r' m' => WT m' ∧ Fx (RS [14]) m m' ∧ r' = some (.int (bwF v g s r (nE v)))) 5 [(0, .ref (ad 0)), (1, .int (nI s)), (2, .int r), (3, .int (bwF v g s r k)), (4, .int (nI k))] [] m1 := by
    intro j
    induction j with
    | zero =>
      intro k m1 hk w1 f1
      have e33 : m1.1 3 3 = nI (nE v) := (ec.fx f1 rfl).1
      obtain rfl : k = nE v := hk
      exact g_X11_sidesWithResult_5 (d := d + 4) ⟨fun _ => ⟨w1, f1, rfl⟩, fun z => absurd (by rw [e33]; exact (nI_leI (a := nE v) (b := nE v) (by omega) (by omega)).mpr (Nat.le_refl _)) z⟩
    | succ j ih =>
      intro k m1 hk w1 f1
      have ec1 := ec.fx f1 rfl
      have e33 : m1.1 3 3 = nI (nE v) := ec1.1
      refine g_X11_sidesWithResult_5 (d := d + 4) ⟨fun z => absurd (by rw [e33] at z; exact (nI_leI (a := nE v) (b := k) (by omega) (by omega)).mp z) (by omega), fun _ => ⟨fun q => ?_, fun q => ?_⟩⟩
      · have hks : k = s := (nI_eq (a := k) (b := s) (by omega) (by omega)).mp q
        have := ih (k + 1) m1 (by omega) w1 f1
        rw [bwF_e hks] at this
        rw [nI_1]
        exact this
      · have hks : ¬ k = s := fun z => q (by rw [z])
        refine (resultC (d := d) SS_21 hG w1 (hc.fx SS_21 f1 rfl) ec1 hs (by omega) (Or.inl rfl)).to ?_
        rintro _ m2 ⟨w2, f2, rfl⟩
        have := ih (k + 1) m2 (by omega) w2 (f1.tr f2 (fun _ _ h => h))
        rw [nI_1]
        refine ⟨_, rfl, fun c => ?_, fun c => ?_⟩
        · rw [bwF_n hks c] at this
          exact this
        · rw [bwF_y hks c] at this
          exact this
  exact v_X11_sidesWithResult (d := d + 4) (L (nE v) 0 m (by omega) w Fx.rf)
theorem e_bbM {s : Nat} (w : WT m) (hm : HM (nE v) m g) (em : EM m v) (hs : s < nE v) : Ct ad μX12_beatenBy (d + 170) [.ref (ad 187), .int (nI s)] m (fun r' m' => WT m' ∧ Fx (RS [22, 28]) m m' ∧ r' = some (.int (bwF v g s 0 (nE v)))) := by
  have n8 := em.2.2.1
  have L : ∀ (j k : Nat) (m1 : Wm), k + j = nE v → WT m1 → Fx (RS [22, 28]) m m1 → AW ad E0 μX12_beatenBy (d + 170) (fun r' m' => WT m' ∧ Fx (RS [22, 28]) m m' ∧ r' = some (.int (bwF v g s 0 (nE v)))) 4 [(0, .ref (ad 187)), (1, .int (nI s)), (2, .int (bwF v g s 0 k)), (3, .int (nI k))] [] m1 := by
    intro j
    induction j with
    | zero =>
      intro k m1 hk w1 f1
      have e1 : m1.1 187 1 = nI (nE v) := (em.fx f1 rfl).1
      obtain rfl : k = nE v := hk
      exact g_X12_beatenBy_4 (d := d + 169) ⟨fun _ => ⟨w1, f1, rfl⟩, fun z => absurd (by rw [e1]; exact (nI_leI (a := nE v) (b := nE v) (by omega) (by omega)).mpr (Nat.le_refl _)) z⟩
    | succ j ih =>
      intro k m1 hk w1 f1
      have em1 := em.fx f1 rfl
      have e1 : m1.1 187 1 = nI (nE v) := em1.1
      refine g_X12_beatenBy_4 (d := d + 169) ⟨fun z => absurd (by rw [e1] at z; exact (nI_leI (a := nE v) (b := k) (by omega) (by omega)).mp z) (by omega), fun _ => ⟨fun q => ?_, fun q => ?_⟩⟩
      · have hks : k = s := (nI_eq (a := k) (b := s) (by omega) (by omega)).mp q
        have := ih (k + 1) m1 (by omega) w1 f1
        rw [bwF_e hks] at this
        rw [nI_1, or_0]
        exact this
      · have hks : ¬ k = s := fun z => q (by rw [z])
        refine (winnerM (d := d) w1 (hm.fx f1 rfl rfl) em1 hs (by omega)).to ?_
        rintro _ m2 ⟨w2, f2, rfl⟩
        have := ih (k + 1) m2 (by omega) w2 (f1.tr f2 (fun _ _ h => h))
        rw [nI_1, or_0]
        refine ⟨_, rfl, fun c => ?_, fun c => ?_⟩
        · rw [bwF_n hks c] at this
          exact this
        · rw [bwF_y hks c] at this
          exact this
  exact v_X12_beatenBy (d := d + 169) (L (nE v) 0 m (by omega) w Fx.rf)
def btA (v : EV) (g : GS) (x : Int32) : Int32 := if 0 ≤ x.toInt ∧ x.toInt < nE v then bwF v g x.toNatClampNeg 0 (nE v) else -1
theorem e_beatsC {x1 : Int32} (w : WT m) (hc : HC 21 m g) (ec : EC m v) : Ct ad μX11_beats (d + 6) [.ref (ad 0), .int x1] m (fun r m' => WT m' ∧ Fx (RS [9, 14]) m m' ∧ r = some (.int (btA v g x1))) := by
  have n8 := ec.2.2.1
  refine v_X11_beats (d := d + 5) ((hasC (d := d + 5) ec.1 n8).to ?_)
  rintro _ m1 ⟨eq, v1, rfl, y1, y2⟩
  obtain rfl := eq.symm
  refine ⟨v1, rfl, fun q => ?_, fun q => ⟨w, Fx.rf, ?_⟩⟩
  · have hI := y2 q
    obtain ⟨s, hs, rfl⟩ := hI.of
    refine (e_swrC (d := d) w hc ec (by omega)).to ?_
    rintro _ m2 ⟨w2, f2, rfl⟩
    refine ⟨_, rfl, (s_X11_tell w2).to ?_⟩
    rintro _ m3 ⟨w3, f3, rfl⟩
    have F3 : Fx (RS [9, 14]) m m3 := (Fx.tr Fx.rf f2 (RS_sub rfl)).tr f3 (RS_sub rfl)
    refine ⟨rfl, (e_swrC (d := d) w3 (hc.fx SS_21 F3 rfl) (ec.fx F3 rfl) (by omega)).to ?_⟩
    rintro _ m4 ⟨w4, f4, rfl⟩
    refine ⟨_, rfl, w4, F3.tr f4 (RS_sub rfl), ?_⟩
    unfold btA
    rw [if_pos (inN_of hI), nI_clamp (by omega)]
  · unfold btA
    rw [if_neg (ninN_of (y1 q))]
theorem e_beatsM {x1 : Int32} (w : WT m) (hm : HM (nE v) m g) (em : EM m v) : Ct ad μX12_beats (d + 171) [.ref (ad 187), .int x1] m (fun r m' => WT m' ∧ Fx (RS [20, 22, 26, 28]) m m' ∧ r = some (.int (btA v g x1))) := by
  have n8 := em.2.2.1
  have w0 : WT (uI m 187 17 0) := w.n rfl
  have f0 : Fx (RS [20]) m (uI m 187 17 0) := Fx.rf.i rfl
  have em0 : EM (uI m 187 17 0) v := em.fx f0 rfl
  have hm0 : HM (nE v) (uI m 187 17 0) g := hm
  refine v_X12_beats (d := d + 170) ((sideM (d := d + 169) em0.1 n8).to ?_)
  rintro _ m1 ⟨eq, v1, rfl, y1, y2⟩
  obtain rfl := eq.symm
  have F0 : Fx (RS [20, 22, 26, 28]) m (uI m 187 17 0) := Fx.tr Fx.rf f0 (RS_sub rfl)
  refine ⟨v1, rfl, fun q => ?_, fun q => ⟨w0, F0, ?_⟩⟩
  · have hI := y2 q
    obtain ⟨s, hs, rfl⟩ := hI.of
    have ea : btA v g (nI s) = bwF v g s 0 (nE v) := by
      unfold btA
      rw [if_pos (inN_of hI), nI_clamp (by omega)]
    have L : ∀ (j k : Nat) (x2 : Int32) (m1 : Wm), k + j = nE v → WT m1 → Fx (RS [20, 22, 26, 28]) m m1 → AW ad E0 μX12_beats (d + 171) (fun r m' => WT m' ∧ Fx (RS [20, 22, 26, 28]) m m' ∧ r = some (.int (btA v g (nI s)))) 19 [(0, .ref (ad 187)), (1, .int (nI s)), (2, .int x2), (3, .int (nI k))] [] m1 := by
      intro j
      induction j with
      | zero =>
        intro k x2 m1 hk w1 f1
        have e1 : m1.1 187 1 = nI (nE v) := (em.fx f1 rfl).1
        have w2 : WT (uI m1 187 16 (0 : Int32)) := w1.t rfl (by decide) (by decide)
        have f2 : Fx (RS [26]) m1 (uI m1 187 16 (0 : Int32)) := Fx.rf.i rfl
        have e16 : ((uI m1 187 16 (0 : Int32)).1 187 16).toInt = 0 := by
          rw [u_eq]
          rfl
        refine g_X12_beats_19 (d := d + 170) ⟨fun _ => (s_X12_tell w2 (by omega)).to ?_, fun z => absurd (by rw [e1]; exact (nI_leI (a := nE v) (b := k) (by omega) (by omega)).mpr (by omega)) z⟩
        rintro _ m3 ⟨w3, f3, rfl, -⟩
        have F3 := (f1.tr f2 (RS_sub rfl)).tr f3 (RS_sub rfl)
        refine ⟨rfl, (e_bbM (d := d) w3 (hm.fx F3 rfl rfl) (em.fx F3 rfl) hs).to ?_⟩
        rintro _ m4 ⟨w4, f4, rfl⟩
        exact ⟨_, rfl, w4, F3.tr f4 (RS_sub rfl), by rw [ea]⟩
      | succ j ih =>
        intro k x2 m1 hk w1 f1
        have em1 := em.fx f1 rfl
        have e1 : m1.1 187 1 = nI (nE v) := em1.1
        refine g_X12_beats_19 (d := d + 170) ⟨fun z => absurd (by rw [e1] at z; exact (nI_leI (a := nE v) (b := k) (by omega) (by omega)).mp z) (by omega), fun _ => ⟨fun q => ?_, fun q => (winnerM (d := d + 1) w1 (hm.fx f1 rfl rfl) em1 hs (by omega)).to ?_⟩⟩
        · rw [nI_1]
          exact ih (k + 1) _ m1 (by omega) w1 f1
        · rintro _ m2 ⟨w2, f2, rfl⟩
          rw [nI_1]
          exact ⟨_, rfl, fun _ => ih (k + 1) _ m2 (by omega) w2 (f1.tr f2 (RS_sub rfl)), fun _ => ih (k + 1) _ m2 (by omega) w2 (f1.tr f2 (RS_sub rfl))⟩
    exact L (nE v) 0 0 _ (by omega) w0 F0
  · unfold btA
    rw [if_neg (ninN_of (y1 q))]
theorem og_beats (c : Nat) (x1 : Int32) : Both ad d μX11_beats μX12_beats [.int x1] (InvK (KX KG c)) (InvK (KX KG (c + 1))) := og_s (A := [9, 14]) (B := [20, 22, 26, 28]) (fun m g v H w kd => ⟨btA v g x1, e_beatsC (d := d + 294) w kd.1 kd.2.2.1, fun m1 w1 kd1 => e_beatsM (d := d + 129) w1 kd1.2.1 kd1.2.2.2.1⟩) rfl rfl rfl rfl rfl rfl
end BTS
/-! CALLS: kings -/
/-- whom s reaches, by way of the first k sides -/
def rchF (v : EV) (g : GS) (s : Nat) : Nat → Int32
  | 0 => bwF v g s 0 (nE v) ||| ((1 : Int32) <<< (nI s &&& 31))
  | k + 1 => if bt (bwF v g s 0 (nE v)) k = true then rchF v g s k ||| bwF v g k 0 (nE v) else rchF v g s k
def flG (n : Nat) : Int32 := ((1 : Int32) <<< (nI n &&& 31)) - (1 : Int32)
def kiF (v : EV) (g : GS) : Nat → Int32
  | 0 => 0
  | s + 1 => if rchF v g s (nE v) = flG (nE v) then kiF v g s ||| ((1 : Int32) <<< (nI s &&& 31)) else kiF v g s
section KIN
variable {ad : Nat → Nat} {d : Nat} {m m0 : Wm} {g : GS} {v : EV} {H : List GS}
theorem rchF_y {s k : Nat} (h : bt (bwF v g s 0 (nE v)) k = true) : rchF v g s (k + 1) = rchF v g s k ||| bwF v g k 0 (nE v) := if_pos h
theorem rchF_n {s k : Nat} (h : bt (bwF v g s 0 (nE v)) k = false) : rchF v g s (k + 1) = rchF v g s k := if_neg (by rw [h]; decide)
theorem kiF_y {s : Nat} (h : rchF v g s (nE v) = flG (nE v)) : kiF v g (s + 1) = kiF v g s ||| ((1 : Int32) <<< (nI s &&& 31)) := if_pos h
theorem kiF_n {s : Nat} (h : ¬ rchF v g s (nE v) = flG (nE v)) : kiF v g (s + 1) = kiF v g s := if_neg h
theorem e_isKing {s : Nat} (hn : m.1 3 3 = nI (nE v)) (n8 : nE v ≤ 8) (hs : s < nE v) (hB : ∀ k, k < nE v → m.1 149 k = bwF v g k 0 (nE v)) : Ct ad μX11_isKing d [.ref (ad 0), .int (nI s)] m (fun r m' => m' = m ∧ YN (rchF v g s (nE v) = flG (nE v)) r) := by
  have V : ∀ k, k < nE v → vp_in (nI k) 8 := fun k hk => nat_in (by omega) (by decide)
  have L : ∀ (j k : Nat), k + j = nE v → AW ad E0 μX11_isKing d (fun r m' => m' = m ∧ YN (rchF v g s (nE v) = flG (nE v)) r) 13 [(0, .ref (ad 0)), (1, .int (nI s)), (2, .int (rchF v g s k)), (3, .int (nI k))] [] m := by
    intro j
    induction j with
    | zero =>
      intro k hk
      obtain rfl : k = nE v := hk
      refine g_X11_isKing_13 ⟨fun _ => ?_, fun z => absurd (by rw [hn]; exact (nI_leI (a := nE v) (b := nE v) (by omega) (by omega)).mpr (Nat.le_refl _)) z⟩
      rw [hn]
      exact ⟨fun q => ⟨rfl, 0, rfl, fun _ => q, fun z => absurd rfl z⟩, fun q => ⟨rfl, 1, rfl, fun z => absurd z (by decide), fun _ => q⟩⟩
    | succ j ih =>
      intro k hk
      refine g_X11_isKing_13 ⟨fun z => absurd (by rw [hn] at z; exact (nI_leI (a := nE v) (b := k) (by omega) (by omega)).mp z) (by omega), fun _ => ⟨V s hs, ?_⟩⟩
      rw [nI_clamp (by omega), nI_clamp (by omega), hB s hs, hB k (by omega), nI_1]
      have := ih (k + 1) (by omega)
      refine ⟨fun q => ?_, fun q => ⟨V k (by omega), ?_⟩⟩
      · rw [rchF_n ((bit_0 _ (by omega)).mp q)] at this
        exact this
      · have hb : bt (bwF v g s 0 (nE v)) k = true := by
          cases hb : bt (bwF v g s 0 (nE v)) k with
          | true => rfl
          | false => exact absurd ((bit_0 _ (by omega)).mpr hb) q
        rw [rchF_y hb] at this
        exact this
  refine v_X11_isKing ⟨V s hs, ?_⟩
  rw [nI_clamp (by omega), hB s hs]
  exact L (nE v) 0 (by omega)
theorem e_kingsC (w : WT m) (hc : HC 21 m g) (ec : EC m v) : Ct ad μX11_kings (d + 6) [.ref (ad 0)] m (fun r m' => WT m' ∧ Fx (RS [9, 14]) m m' ∧ r = some (.int (kiF v g (nE v)))) := by
  have n8 := ec.2.2.1
  have V : ∀ k, k < nE v → vp_in (nI k) 8 := fun k hk => nat_in (by omega) (by decide)
  have L2 : ∀ (x1 : Int32) (j s : Nat) (m1 : Wm), s + j = nE v → WT m1 → Fx (RS [9, 14]) m m1 → (∀ k, k < nE v → m1.1 149 k = bwF v g k 0 (nE v)) → AW ad E0 μX11_kings (d + 6) (fun r m' => WT m' ∧ Fx (RS [9, 14]) m m' ∧ r = some (.int (kiF v g (nE v)))) 52 [(0, .ref (ad 0)), (1, .int x1), (2, .int (kiF v g s)), (3, .int (nI s))] [] m1 := by
    intro x1 j
    induction j with
    | zero =>
      intro s m1 hs w1 f1 hB
      have e33 : m1.1 3 3 = nI (nE v) := (ec.fx f1 rfl).1
      obtain rfl : s = nE v := hs
      refine g_X11_kings_52 (d := d + 5) ⟨fun _ => (s_X11_tell w1).to ?_, fun z => absurd (by rw [e33]; exact (nI_leI (a := nE v) (b := nE v) (by omega) (by omega)).mpr (Nat.le_refl _)) z⟩
      rintro _ m2 ⟨w2, f2, rfl⟩
      exact ⟨rfl, w2, f1.tr f2 (RS_sub rfl), rfl⟩
    | succ j ih =>
      intro s m1 hs w1 f1 hB
      have e33 : m1.1 3 3 = nI (nE v) := (ec.fx f1 rfl).1
      refine g_X11_kings_52 (d := d + 5) ⟨fun z => absurd (by rw [e33] at z; exact (nI_leI (a := nE v) (b := s) (by omega) (by omega)).mp z) (by omega), fun _ => (e_isKing (d := d + 5) (s := s) e33 n8 (by omega) hB).to ?_⟩
      rintro _ m2 ⟨eq, v2, rfl, y1, y2⟩
      obtain rfl := eq.symm
      have := ih (s + 1) m1 (by omega) w1 f1 hB
      rw [nI_1]
      refine ⟨v2, rfl, fun q => ?_, fun q => ?_⟩
      · rw [kiF_n (y1 q)] at this
        exact this
      · rw [kiF_y (y2 q)] at this
        exact this
  have L : ∀ (j s : Nat) (x1 : Int32) (m1 : Wm), s + j = nE v → WT m1 → Fx (RS [9, 14]) m m1 → (∀ k, k < s → m1.1 149 k = bwF v g k 0 (nE v)) → AW ad E0 μX11_kings (d + 6) (fun r m' => WT m' ∧ Fx (RS [9, 14]) m m' ∧ r = some (.int (kiF v g (nE v)))) 4 [(0, .ref (ad 0)), (1, .int x1), (2, .int (nI s))] [] m1 := by
    intro j
    induction j with
    | zero =>
      intro s x1 m1 hs w1 f1 hB
      have e33 : m1.1 3 3 = nI (nE v) := (ec.fx f1 rfl).1
      obtain rfl : s = nE v := hs
      exact g_X11_kings_4 (d := d + 5) ⟨fun _ => L2 x1 (nE v) 0 m1 (by omega) w1 f1 hB, fun z => absurd (by rw [e33]; exact (nI_leI (a := nE v) (b := nE v) (by omega) (by omega)).mpr (Nat.le_refl _)) z⟩
    | succ j ih =>
      intro s x1 m1 hs w1 f1 hB
      have ec1 := ec.fx f1 rfl
      have e33 : m1.1 3 3 = nI (nE v) := ec1.1
      refine g_X11_kings_4 (d := d + 5) ⟨fun z => absurd (by rw [e33] at z; exact (nI_leI (a := nE v) (b := s) (by omega) (by omega)).mp z) (by omega), fun _ => (e_swrC (d := d) w1 (hc.fx SS_21 f1 rfl) ec1 (by omega)).to ?_⟩
      rintro _ m2 ⟨w2, f2, rfl⟩
      rw [nI_clamp (by omega), nI_1]
      have w3 : WT (uI m2 149 s (bwF v g s 0 (nE v))) := w2.n rfl
      have F2 := f1.tr f2 (RS_sub (l2 := [9, 14]) rfl)
      have f3 : Fx (RS [9, 14]) m (uI m2 149 s (bwF v g s 0 (nE v))) := F2.i rfl
      have hB3 : ∀ k, k < s + 1 → (uI m2 149 s (bwF v g s 0 (nE v))).1 149 k = bwF v g k 0 (nE v) := fun k hk => by
        by_cases q : k = s
        · rw [q, u_eq]
        · rw [u_ne (fun z => q z.2), f2.at (a := 149) (k := k) (nRS (ρ := 9) rfl rfl)]
          exact hB k (by omega)
      exact ⟨_, rfl, V s (by omega), V s (by omega), fun _ => ih (s + 1) _ _ (by omega) w3 f3 hB3, fun _ => ih (s + 1) _ _ (by omega) w3 f3 hB3⟩
  exact v_X11_kings (d := d + 5) (L (nE v) 0 0 m (by omega) w Fx.rf (fun k hk => absurd hk (Nat.not_lt_zero k)))
theorem e_kingsM (w : WT m) (hm : HM (nE v) m g) (em : EM m v) : Ct ad μX12_kings (d + 171) [.ref (ad 187)] m (fun r m' => WT m' ∧ Fx (RS [20, 22, 26, 28]) m m' ∧ r = some (.int (kiF v g (nE v)))) := by
  have n8 := em.2.2.1
  have w0 : WT (uI m 187 17 0) := w.n rfl
  have f0 : Fx (RS [20, 22, 26, 28]) m (uI m 187 17 0) := Fx.rf.i rfl
  have L : ∀ (j s : Nat) (x2 : Int32) (m1 : Wm), s + j = nE v → WT m1 → Fx (RS [20, 22, 26, 28]) m m1 → AW ad E0 μX12_kings (d + 171) (fun r m' => WT m' ∧ Fx (RS [20, 22, 26, 28]) m m' ∧ r = some (.int (kiF v g (nE v)))) 11 [(0, .ref (ad 187)), (1, .int (kiF v g s)), (2, .int x2), (3, .int (nI s))] [] m1 := by
    intro j
    induction j with
    | zero =>
      intro s x2 m1 hs w1 f1
      have e1 : m1.1 187 1 = nI (nE v) := (em.fx f1 rfl).1
      obtain rfl : s = nE v := hs
      have w2 : WT (uI m1 187 16 (0 : Int32)) := w1.t rfl (by decide) (by decide)
      have f2 : Fx (RS [26]) m1 (uI m1 187 16 (0 : Int32)) := Fx.rf.i rfl
      refine g_X12_kings_11 (d := d + 170) ⟨fun _ => (s_X12_tell w2 (by rw [u_eq]; decide)).to ?_, fun z => absurd (by rw [e1]; exact (nI_leI (a := nE v) (b := nE v) (by omega) (by omega)).mpr (Nat.le_refl _)) z⟩
      rintro _ m3 ⟨w3, f3, rfl, -⟩
      exact ⟨rfl, w3, (f1.tr f2 (RS_sub rfl)).tr f3 (RS_sub rfl), rfl⟩
    | succ j ih =>
      intro s x2 m1 hs w1 f1
      have em1 := em.fx f1 rfl
      have e1 : m1.1 187 1 = nI (nE v) := em1.1
      refine g_X12_kings_11 (d := d + 170) ⟨fun z => absurd (by rw [e1] at z; exact (nI_leI (a := nE v) (b := s) (by omega) (by omega)).mp z) (by omega), fun _ => (e_bbM (d := d) w1 (hm.fx f1 rfl rfl) em1 (by omega)).to ?_⟩
      rintro _ m2 ⟨w2, f2, rfl⟩
      have F2 := f1.tr f2 (RS_sub (l2 := [20, 22, 26, 28]) rfl)
      have K : ∀ (j2 k : Nat) (m3 : Wm), k + j2 = nE v → WT m3 → Fx (RS [20, 22, 26, 28]) m m3 → AW ad E0 μX12_kings (d + 171) (fun r m' => WT m' ∧ Fx (RS [20, 22, 26, 28]) m m' ∧ r = some (.int (kiF v g (nE v)))) 37 [(0, .ref (ad 187)), (1, .int (kiF v g s)), (2, .int x2), (3, .int (nI s)), (4, .int (bwF v g s 0 (nE v))), (5, .int (rchF v g s k)), (6, .int (nI k))] [] m3 := by
        intro j2
        induction j2 with
        | zero =>
          intro k m3 hk w3 f3
          have e1 : m3.1 187 1 = nI (nE v) := (em.fx f3 rfl).1
          obtain rfl : k = nE v := hk
          refine g_X12_kings_37 (d := d + 170) ⟨fun _ => ?_, fun z => absurd (by rw [e1]; exact (nI_leI (a := nE v) (b := nE v) (by omega) (by omega)).mpr (Nat.le_refl _)) z⟩
          rw [e1]
          have E : ∀ s0 : Int32, kiF v g s ||| s0 = kiF v g (s + 1) → AW ad E0 μX12_kings (d + 171) (fun r m' => WT m' ∧ Fx (RS [20, 22, 26, 28]) m m' ∧ r = some (.int (kiF v g (nE v)))) 98 [(0, .ref (ad 187)), (2, .int x2), (3, .int (nI s)), (4, .int (bwF v g s 0 (nE v)))] [.int s0, .int (kiF v g s)] m3 := fun s0 hs0 => by
            refine g_X12_kings_98 (d := d + 170) ?_
            rw [hs0, nI_1]
            exact ⟨fun _ => ih (s + 1) _ m3 (by omega) w3 f3, fun _ => ih (s + 1) _ m3 (by omega) w3 f3⟩
          exact ⟨fun q => E 0 (by rw [or_0, kiF_n q]), fun q => E _ (kiF_y q).symm⟩
        | succ j2 ih2 =>
          intro k m3 hk w3 f3
          have em3 := em.fx f3 rfl
          have e1 : m3.1 187 1 = nI (nE v) := em3.1
          refine g_X12_kings_37 (d := d + 170) ⟨fun z => absurd (by rw [e1] at z; exact (nI_leI (a := nE v) (b := k) (by omega) (by omega)).mp z) (by omega), fun _ => (hasM_ok).to ?_⟩
          rintro _ m4 ⟨eq, rfl⟩
          obtain rfl := eq.symm
          have hbq := bit_q (bwF v g s 0 (nE v)) (k := k) (by omega)
          rw [nI_1, or_0]
          refine ⟨_, rfl, fun q => ?_, fun q => (e_bbM (d := d) (s := k) w3 (hm.fx f3 rfl rfl) em3 (by omega)).to ?_⟩
          · have hb : bt (bwF v g s 0 (nE v)) k = false := by
              cases hb : bt (bwF v g s 0 (nE v)) k with
              | false => rfl
              | true => rw [if_pos (hbq.mpr hb)] at q; exact absurd q (by decide)
            have := ih2 (k + 1) m3 (by omega) w3 f3
            rw [rchF_n hb] at this
            exact this
          · have hb : bt (bwF v g s 0 (nE v)) k = true := by
              by_cases z : ((bwF v g s 0 (nE v) >>> (nI k &&& 31)) &&& 1) = 1
              · exact hbq.mp z
              · rw [if_neg z] at q; exact absurd rfl q
            rintro _ m5 ⟨w5, f5, rfl⟩
            have := ih2 (k + 1) m5 (by omega) w5 (f3.tr f5 (RS_sub rfl))
            rw [rchF_y hb] at this
            exact ⟨_, rfl, this⟩
      exact ⟨_, rfl, K (nE v) 0 m2 (by omega) w2 F2⟩
  exact v_X12_kings (d := d + 170) (L (nE v) 0 0 _ (by omega) w0 f0)
theorem og_kings (c : Nat) : Both ad d μX11_kings μX12_kings [] (InvK (KX KG c)) (InvK (KX KG (c + 1))) := og_s (A := [9, 14]) (B := [20, 22, 26, 28]) (fun m g v H w kd => ⟨kiF v g (nE v), e_kingsC (d := d + 294) w kd.1 kd.2.2.1, fun m1 w1 kd1 => e_kingsM (d := d + 129) w1 kd1.2.1 kd1.2.2.2.1⟩) rfl rfl rfl rfl rfl rfl
end KIN
/-! CALLS: spread -/
/-- the first of those with the least -/
def wkF (f : Nat → Int32) : Nat → Nat
  | 0 => 0
  | k + 1 => if f (wkF f k) ≤ f k then wkF f k else k
theorem wkF_p {f : Nat → Int32} {k : Nat} (c : f (wkF f k) ≤ f k) : wkF f (k + 1) = wkF f k := if_pos c
theorem wkF_n {f : Nat → Int32} {k : Nat} (c : ¬ f (wkF f k) ≤ f k) : wkF f (k + 1) = k := if_neg c
theorem wkF_lt {f : Nat → Int32} {n : Nat} (hn : 0 < n) : ∀ k, k ≤ n → wkF f k < n := by
  intro k
  induction k with
  | zero => intro _; exact hn
  | succ k ih =>
    intro h
    by_cases c : f (wkF f k) ≤ f k
    · rw [wkF_p c]
      exact ih (by omega)
    · rw [wkF_n c]
      omega
theorem wkF_1 {f : Nat → Int32} : wkF f 1 = 0 := by
  by_cases c : f (wkF f 0) ≤ f 0
  · exact wkF_p c
  · exact wkF_n c
theorem bsF_1 {f : Nat → Int32} : bsF f 1 = 0 := by
  by_cases c : f 0 ≤ f (bsF f 0)
  · exact bsF_p c
  · exact bsF_n c
def sprA (v : EV) (g : GS) : Int32 := if nE v = 0 then 0 else pwG v g (bsF (pwG v g) (nE v)) - pwG v g (wkF (pwG v g) (nE v))
section SPR
variable {ad : Nat → Nat} {d : Nat} {m m0 : Wm} {g : GS} {v : EV} {H : List GS}
theorem powC {s : Nat} (w : WT m) (h : HC 21 m g) (hE : EC m v) (hs : s < 8) : Ct ad μX1_power (d + 4) [.ref (ad 3), .ref (ad 21), .int (nI s)] m (fun r m' => WT m' ∧ Fx (RS [14]) m m' ∧ r = some (.int (pwG v g s))) := by
  obtain ⟨P, hP, hRu, hV⟩ := valueC (ad := ad) (d := d) SS_21 (Or.inr (Or.inl rfl)) w h hE hs
  refine v_X1_power (d := d + 3) SS_21.1 ⟨P, hP, hRu, ?_⟩
  rw [hE.2.1]
  refine hV.to ?_
  rintro _ m1 ⟨w1, f1, rfl⟩
  exact ⟨_, rfl, w1, f1, rfl⟩
theorem e_strC (w : WT m) (hc : HC 21 m g) (ec : EC m v) (hn0 : 0 < nE v) : Ct ad μX1_strongest (d + 5) [.ref (ad 3), .ref (ad 21)] m (fun r m' => WT m' ∧ Fx (RS [14]) m m' ∧ r = some (.int (nI (bsF (pwG v g) (nE v))))) := by
  have n8 := ec.2.2.1
  have L : ∀ (j k : Nat) (m1 : Wm), 1 ≤ k → k + j = nE v → WT m1 → Fx (RS [14]) m m1 → AW ad E0 μX1_strongest (d + 5) (fun r m' => WT m' ∧ Fx (RS [14]) m m' ∧ r = some (.int (nI (bsF (pwG v g) (nE v))))) 7 [(0, .ref (ad 3)), (1, .ref (ad 21)), (2, .int (nI (bsF (pwG v g) k))), (3, .int (pwG v g (bsF (pwG v g) k))), (4, .int (nI k))] [] m1 := by
    intro j
    induction j with
    | zero =>
      intro k m1 h1 hk w1 f1
      have e33 : m1.1 3 3 = nI (nE v) := (ec.fx f1 rfl).1
      obtain rfl : k = nE v := hk
      exact g_X1_strongest_7 (d := d + 4) SS_21.1 ⟨fun _ => ⟨w1, f1, rfl⟩, fun z => absurd (by rw [e33]; exact (nI_leI (a := nE v) (b := nE v) (by omega) (by omega)).mpr (Nat.le_refl _)) z⟩
    | succ j ih =>
      intro k m1 h1 hk w1 f1
      have ec1 := ec.fx f1 rfl
      have e33 : m1.1 3 3 = nI (nE v) := ec1.1
      refine g_X1_strongest_7 (d := d + 4) SS_21.1 ⟨fun z => absurd (by rw [e33] at z; exact (nI_leI (a := nE v) (b := k) (by omega) (by omega)).mp z) (by omega), fun _ => (powC (d := d) (s := k) w1 (hc.fx SS_21 f1 rfl) ec1 (by omega)).to ?_⟩
      rintro _ m2 ⟨w2, f2, rfl⟩
      have := ih (k + 1) m2 (by omega) (by omega) w2 (f1.tr f2 (fun _ _ h => h))
      rw [nI_1]
      refine ⟨_, rfl, fun z => absurd ((nI_eq (a := k) (b := 0) (by omega) (by omega)).mp z) (by omega), fun _ => ⟨fun q => ?_, fun q => ?_⟩⟩
      · rw [bsF_p q] at this
        exact this
      · rw [bsF_n q] at this
        exact this
  refine v_X1_strongest (d := d + 4) SS_21.1 (g_X1_strongest_7 (d := d + 4) SS_21.1 ⟨fun z => absurd (by rw [ec.1] at z; exact (nI_leI (a := nE v) (b := 0) (by omega) (by omega)).mp z) (by omega), fun _ => (powC (d := d) (s := 0) w hc ec (by decide)).to ?_⟩)
  rintro _ m2 ⟨w2, f2, rfl⟩
  refine ⟨_, rfl, fun _ => ?_, fun z => absurd rfl z⟩
  have := L (nE v - 1) 1 m2 (by decide) (by omega) w2 f2
  rw [bsF_1] at this
  exact this
theorem e_weaC (w : WT m) (hc : HC 21 m g) (ec : EC m v) (hn0 : 0 < nE v) : Ct ad μX1_weakest (d + 5) [.ref (ad 3), .ref (ad 21)] m (fun r m' => WT m' ∧ Fx (RS [14]) m m' ∧ r = some (.int (nI (wkF (pwG v g) (nE v))))) := by
  have n8 := ec.2.2.1
  have L : ∀ (j k : Nat) (m1 : Wm), 1 ≤ k → k + j = nE v → WT m1 → Fx (RS [14]) m m1 → AW ad E0 μX1_weakest (d + 5) (fun r m' => WT m' ∧ Fx (RS [14]) m m' ∧ r = some (.int (nI (wkF (pwG v g) (nE v))))) 7 [(0, .ref (ad 3)), (1, .ref (ad 21)), (2, .int (nI (wkF (pwG v g) k))), (3, .int (pwG v g (wkF (pwG v g) k))), (4, .int (nI k))] [] m1 := by
    intro j
    induction j with
    | zero =>
      intro k m1 h1 hk w1 f1
      have e33 : m1.1 3 3 = nI (nE v) := (ec.fx f1 rfl).1
      obtain rfl : k = nE v := hk
      exact g_X1_weakest_7 (d := d + 4) SS_21.1 ⟨fun _ => ⟨w1, f1, rfl⟩, fun z => absurd (by rw [e33]; exact (nI_leI (a := nE v) (b := nE v) (by omega) (by omega)).mpr (Nat.le_refl _)) z⟩
    | succ j ih =>
      intro k m1 h1 hk w1 f1
      have ec1 := ec.fx f1 rfl
      have e33 : m1.1 3 3 = nI (nE v) := ec1.1
      refine g_X1_weakest_7 (d := d + 4) SS_21.1 ⟨fun z => absurd (by rw [e33] at z; exact (nI_leI (a := nE v) (b := k) (by omega) (by omega)).mp z) (by omega), fun _ => (powC (d := d) (s := k) w1 (hc.fx SS_21 f1 rfl) ec1 (by omega)).to ?_⟩
      rintro _ m2 ⟨w2, f2, rfl⟩
      have := ih (k + 1) m2 (by omega) (by omega) w2 (f1.tr f2 (fun _ _ h => h))
      rw [nI_1]
      refine ⟨_, rfl, fun z => absurd ((nI_eq (a := k) (b := 0) (by omega) (by omega)).mp z) (by omega), fun _ => ⟨fun q => ?_, fun q => ?_⟩⟩
      · rw [wkF_p q] at this
        exact this
      · rw [wkF_n q] at this
        exact this
  refine v_X1_weakest (d := d + 4) SS_21.1 (g_X1_weakest_7 (d := d + 4) SS_21.1 ⟨fun z => absurd (by rw [ec.1] at z; exact (nI_leI (a := nE v) (b := 0) (by omega) (by omega)).mp z) (by omega), fun _ => (powC (d := d) (s := 0) w hc ec (by decide)).to ?_⟩)
  rintro _ m2 ⟨w2, f2, rfl⟩
  refine ⟨_, rfl, fun _ => ?_, fun z => absurd rfl z⟩
  have := L (nE v - 1) 1 m2 (by decide) (by omega) w2 f2
  rw [wkF_1] at this
  exact this
theorem e_spreadC (w : WT m) (hc : HC 21 m g) (ec : EC m v) : Ct ad μX11_spread (d + 6) [.ref (ad 0)] m (fun r m' => WT m' ∧ Fx (RS [9, 14]) m m' ∧ r = some (.int (sprA v g))) := by
  have n8 := ec.2.2.1
  refine v_X11_spread (d := d + 5) ⟨fun c => ?_, fun c => ⟨w.t rfl (by decide) (by decide), Fx.rf.i rfl, ?_⟩⟩
  · have hn0 : 0 < nE v := Nat.pos_of_ne_zero (fun z => c (by rw [ec.1, z]; rfl))
    have hb := bsF_lt (f := pwG v g) hn0 (nE v) (Nat.le_refl _)
    have hw := wkF_lt (f := pwG v g) hn0 (nE v) (Nat.le_refl _)
    refine (e_strC (d := d) w hc ec hn0).to ?_
    rintro _ m1 ⟨w1, f1, rfl⟩
    refine ⟨_, rfl, (e_weaC (d := d) w1 (hc.fx SS_21 f1 rfl) (ec.fx f1 rfl) hn0).to ?_⟩
    rintro _ m2 ⟨w2, f2, rfl⟩
    refine ⟨_, rfl, (s_X11_tell_ w2).to ?_⟩
    rintro _ m3 ⟨w3, f3, rfl⟩
    have F3 : Fx (RS [9, 14]) m m3 := ((Fx.tr Fx.rf f1 (RS_sub rfl)).tr f2 (RS_sub rfl)).tr f3 (RS_sub rfl)
    refine ⟨rfl, (powC (d := d + 1) (s := bsF (pwG v g) (nE v)) w3 (hc.fx SS_21 F3 rfl) (ec.fx F3 rfl) (by omega)).to ?_⟩
    rintro _ m4 ⟨w4, f4, rfl⟩
    have F4 := F3.tr f4 (RS_sub (l2 := [9, 14]) rfl)
    refine ⟨_, rfl, (powC (d := d + 1) (s := wkF (pwG v g) (nE v)) w4 (hc.fx SS_21 F4 rfl) (ec.fx F4 rfl) (by omega)).to ?_⟩
    rintro _ m5 ⟨w5, f5, rfl⟩
    refine ⟨_, rfl, w5, F4.tr f5 (RS_sub rfl), ?_⟩
    unfold sprA
    rw [if_neg (by omega)]
  · have hn0 : nE v = 0 := (nI_eq (a := nE v) (b := 0) (by omega) (by omega)).mp (ec.1.symm.trans c)
    unfold sprA
    rw [if_pos hn0]
theorem e_spreadM (w : WT m) (hm : HM (nE v) m g) (em : EM m v) : Ct ad μX12_spread (d + 170) [.ref (ad 187)] m (fun r m' => WT m' ∧ Fx (RS [20, 22, 26, 28, 33]) m m' ∧ r = some (.int (sprA v g))) := by
  have n8 := em.2.2.1
  have wa : WT (uI (uI (uI m 187 17 0) 187 34 (0 : Int32)) 187 35 (0 : Int32)) := ((w.n rfl).n rfl).n rfl
  have fa : Fx (RS [20, 22, 26, 28, 33]) m (uI (uI (uI m 187 17 0) 187 34 (0 : Int32)) 187 35 (0 : Int32)) := Fx.i (Fx.i (Fx.i Fx.rf rfl) rfl) rfl
  have S : Ct ad μX12_spreadNow (d + 169) [.ref (ad 187)] (uI m 187 17 0) (fun r m' => WT m' ∧ Fx (RS [20, 22, 26, 28, 33]) m m' ∧ r = some (.int (sprA v g))) := by
    refine v_X12_spreadNow (d := d + 168) ?_
    generalize uI (uI (uI m 187 17 0) 187 34 (0 : Int32)) 187 35 (0 : Int32) = ma at wa fa ⊢
    have ema := em.fx fa rfl
    have e1a : ma.1 187 1 = nI (nE v) := ema.1
    refine ⟨fun c => ?_, fun c => ⟨wa, fa, ?_⟩⟩
    · have hn0 : 0 < nE v := Nat.pos_of_ne_zero (fun z => c (by rw [e1a, z]; rfl))
      have ea : sprA v g = pwG v g (bsF (pwG v g) (nE v)) - pwG v g (wkF (pwG v g) (nE v)) := if_neg (by omega)
      have L : ∀ (j k : Nat) (m1 : Wm), k + j = nE v → WT m1 → Fx (RS [20, 22, 26, 28, 33]) m m1 → AW ad E0 μX12_spreadNow (d + 169) (fun r m' => WT m' ∧ Fx (RS [20, 22, 26, 28, 33]) m m' ∧ r = some (.int (sprA v g))) 29 [(0, .ref (ad 187)), (1, .int (pwG v g (bsF (pwG v g) k))), (2, .int (pwG v g (wkF (pwG v g) k))), (3, .int (nI k))] [] m1 := by
        intro j
        induction j with
        | zero =>
          intro k m1 hk w1 f1
          have e1 : m1.1 187 1 = nI (nE v) := (em.fx f1 rfl).1
          obtain rfl : k = nE v := hk
          exact g_X12_spreadNow_29 (d := d + 168) ⟨fun _ => ⟨w1, f1, by rw [ea]⟩, fun z => absurd (by rw [e1]; exact (nI_leI (a := nE v) (b := nE v) (by omega) (by omega)).mpr (Nat.le_refl _)) z⟩
        | succ j ih =>
          intro k m1 hk w1 f1
          have em1 := em.fx f1 rfl
          have e1 : m1.1 187 1 = nI (nE v) := em1.1
          refine g_X12_spreadNow_29 (d := d + 168) ⟨fun z => absurd (by rw [e1] at z; exact (nI_leI (a := nE v) (b := k) (by omega) (by omega)).mp z) (by omega), fun _ => (powerM (d := d) w1 (hm.fx f1 rfl rfl) em1 (s := k) (by omega)).to ?_⟩
          rintro _ m2 ⟨w2, f2, rfl⟩
          have F2 := f1.tr f2 (RS_sub (l2 := [20, 22, 26, 28, 33]) rfl)
          have T : ∀ (m3 : Wm), WT m3 → Fx (RS [20, 22, 26, 28, 33]) m m3 → AW ad E0 μX12_spreadNow (d + 169) (fun r m' => WT m' ∧ Fx (RS [20, 22, 26, 28, 33]) m m' ∧ r = some (.int (sprA v g))) 58 [(0, .ref (ad 187)), (1, .int (pwG v g (bsF (pwG v g) (k + 1)))), (2, .int (pwG v g (wkF (pwG v g) k))), (3, .int (nI k)), (4, .int (pwG v g k))] [] m3 := fun m3 w3 f3 => by
            refine g_X12_spreadNow_58 (d := d + 168) ⟨fun q => ?_, fun q => ?_⟩
            · have := ih (k + 1) m3 (by omega) w3 f3
              rw [wkF_p q] at this
              rw [nI_1]
              exact this
            · have := ih (k + 1) (uI m3 187 35 (nI k)) (by omega) (w3.n rfl) (f3.i rfl)
              rw [wkF_n q] at this
              rw [nI_1]
              exact this
          refine ⟨_, rfl, fun q => ?_, fun q => ?_⟩
          · have := T m2 w2 F2
            rw [bsF_p q] at this
            exact this
          · have := T (uI m2 187 34 (nI k)) (w2.n rfl) (F2.i rfl)
            rw [bsF_n q] at this
            exact this
      refine (powerM (d := d) wa (hm.fx fa rfl rfl) ema (s := 0) hn0).to ?_
      rintro _ m2 ⟨w2, f2, rfl⟩
      have := L (nE v - 1) 1 m2 (by omega) w2 (fa.tr f2 (RS_sub rfl))
      rw [bsF_1, wkF_1] at this
      exact ⟨_, rfl, this⟩
    · have hn0 : nE v = 0 := (nI_eq (a := nE v) (b := 0) (by omega) (by omega)).mp (e1a.symm.trans c)
      unfold sprA
      rw [if_pos hn0]
  refine v_X12_spread (d := d + 169) (S.to ?_)
  rintro _ m1 ⟨w1, f1, rfl⟩
  have w2 : WT (uI m1 187 16 (0 : Int32)) := w1.t rfl (by decide) (by decide)
  have f2 : Fx (RS [20, 22, 26, 28, 33]) m (uI m1 187 16 (0 : Int32)) := f1.i rfl
  refine ⟨_, rfl, fun _ => ⟨w2, f2, rfl⟩, fun _ => (s_X12_tell w2 (by rw [u_eq]; decide)).to ?_⟩
  rintro _ m3 ⟨w3, f3, rfl, p3⟩
  have e16 : ((uI m1 187 16 (0 : Int32)).1 187 16).toInt = 0 := by
    rw [u_eq]
    rfl
  have p3' : (m3.1 187 16).toInt = ((uI m1 187 16 (0 : Int32)).1 187 16).toInt + 1 := p3
  refine ⟨rfl, (s_X12_tell w3 (by omega)).to ?_⟩
  rintro _ m4 ⟨w4, f4, rfl, -⟩
  exact ⟨rfl, w4, (f2.tr f3 (RS_sub rfl)).tr f4 (RS_sub rfl), rfl⟩
theorem og_spread (c : Nat) : Both ad d μX11_spread μX12_spread [] (InvK (KX KG c)) (InvK (KX KG (c + 1))) := og_s (A := [9, 14]) (B := [20, 22, 26, 28, 33]) (fun m g v H w kd => ⟨sprA v g, e_spreadC (d := d + 294) w kd.1 kd.2.2.1, fun m1 w1 kd1 => e_spreadM (d := d + 130) w1 kd1.2.1 kd1.2.2.2.1⟩) rfl rfl rfl rfl rfl rfl
end SPR
end
