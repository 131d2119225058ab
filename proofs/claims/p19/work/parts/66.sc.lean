/-! SEARCHES OF THE MODEL LEAVE ITS LEAGUE AS IT IS -/
def ZB (n : Nat) (g : GS) : Prop := ∀ k, 4 * n ≤ k → k < 32 → g.1 k = 0
section RSA
variable {ad : Nat → Nat} {m : Wm} {g : GS} {sd : Nat}
theorem HM.z (h : HM sd m g) {x : Nat} (hz : 4 * sd ≤ x) : HM sd (uI m 188 x 0) g := by
  obtain ⟨h1, h2, h3, h4, h5⟩ := h
  exact ⟨fun k hk => (u_ne (by omega)).trans (h1 k hk), h2, h3, h4, h5⟩
theorem r_clear {d : Nat} (w : WT m) (hm : HM sd m g) (hs : m.1 187 1 = nI sd) (hs8 : sd ≤ 8) : Ct ad μX12_clearStates (d + 1) [.ref (ad 187)] m (fun r m' => WT m' ∧ Fx (RS [24, 34, 35]) m m' ∧ r = none ∧ ST m' ∧ (m'.1 187 43).toInt = 0 ∧ HM sd m' g ∧ HL sd 204 0 m' g) := by
  have z0 : (0 : Int32).toInt = 0 := rfl
  have L2 : ∀ n x (m1 : Wm), x + n = 32 → 4 * sd ≤ x → WT m1 → Fx (RS [24, 34, 35]) m m1 → ST m1 → (m1.1 187 43).toInt = 0 → HM sd m1 g → AW ad E0 μX12_clearStates (d + 1) (fun r m' => WT m' ∧ Fx (RS [24, 34, 35]) m m' ∧ r = none ∧ ST m' ∧ (m'.1 187 43).toInt = 0 ∧ HM sd m' g ∧ HL sd 204 0 m' g) 34 [(0, .ref (ad 187)), (1, .int (nI x))] [] m1 := by
    intro n
    induction n with
    | zero =>
      intro x m1 hx hxs w1 f1 s1 e1 hm1
      obtain rfl : x = 32 := by omega
      refine g_X12_clearStates_34 ⟨fun _ => (layH (x := 0) (na := 57) (reg := 34) rfl (by decide) (by decide) (fun _ => rfl) (fun _ => rfl) w1 hm1 hs8 (by decide)).to ?_, fun c => absurd (by decide) c⟩
      rintro _ m2 ⟨rfl, w2, f2, hq, -, -⟩
      refine ⟨rfl, w2, f1.tr f2 (RS_sub rfl), rfl, s1.fx f2 rfl, ?_, hm1.fx f2 rfl rfl, hq⟩
      rw [f2.at (a := 187) (k := 43) (by decide)]
      exact e1
    | succ n ih =>
      intro x m1 hx hxs w1 f1 s1 e1 hm1
      refine g_X12_clearStates_34 ⟨fun c => absurd ((le_l 32 32 rfl (by omega) (by omega)).mp c) (by omega), fun _ => ⟨nat_in (by omega) (by decide), ?_⟩⟩
      rw [nI_1]
      rw [nI_clamp (by omega)]
      refine ih (x + 1) _ (by omega) (by omega) (w1.n rfl) (f1.i rfl) ?_ e1 (hm1.z hxs)
      exact s1.fx (S := [24]) ((Fx.rf (m := m1)).i rfl) rfl
  have L1 : ∀ n x (m1 : Wm), x + n = 8192 → WT m1 → Fx (RS [24, 34, 35]) m m1 → (∀ k, k < x → m1.1 210 k = 0) → HM sd m1 g → AW ad E0 μX12_clearStates (d + 1) (fun r m' => WT m' ∧ Fx (RS [24, 34, 35]) m m' ∧ r = none ∧ ST m' ∧ (m'.1 187 43).toInt = 0 ∧ HM sd m' g ∧ HL sd 204 0 m' g) 2 [(0, .ref (ad 187)), (1, .int (nI x))] [] m1 := by
    intro n
    induction n with
    | zero =>
      intro x m1 hx w1 f1 h hm1
      obtain rfl : x = 8192 := by omega
      refine g_X12_clearStates_2 ⟨fun _ => ?_, fun c => absurd (by decide) c⟩
      have es : m1.1 187 1 = nI sd := (f1.at (nRS (ρ := 23) rfl rfl)).trans hs
      show AW ad E0 μX12_clearStates (d + 1) _ 34 [(0, .ref (ad 187)), (1, .int ((4 : Int32) * (m1.1 187 1)))] [] (uI m1 187 43 0)
      rw [es, l_mul 4 4 rfl]
      refine L2 (32 - 4 * sd) _ _ (by omega) (Nat.le_refl _) (w1.t rfl (by decide) (by decide)) (f1.i rfl) ⟨?_, fun k hk => ?_, fun k hk => absurd (show (k : Int) < 0 from hk) (by omega)⟩ rfl hm1
      · show ((czf (m1.1 210) 8192 : Nat) : Int) ≤ 0
        rw [czf_zero 8192 h]
        decide
      · show (m1.1 210 k).toInt ≤ 0
        rw [h k hk]
        decide
    | succ n ih =>
      intro x m1 hx w1 f1 h hm1
      refine g_X12_clearStates_2 ⟨fun c => absurd ((le_l 8192 8192 rfl (by omega) (by omega)).mp c) (by omega), fun _ => ⟨nat_in (by omega) (by decide), ?_⟩⟩
      rw [nI_1]
      refine ih (x + 1) _ (by omega) (w1.t rfl (by decide) (by decide)) (f1.i rfl) (fun k hk => ?_) hm1
      show (if 210 = 210 ∧ k = (nI x).toNatClampNeg then (0 : Int32) else m1.1 210 k) = 0
      rw [nI_clamp (by omega)]
      by_cases hkx : k = x
      · rw [if_pos ⟨rfl, hkx⟩]
      · rw [if_neg (fun q => hkx q.2)]
        exact h k (by omega)
  exact v_X12_clearStates (L1 8192 0 m rfl w Fx.rf (fun k hk => absurd hk (by omega)) hm)
theorem r_findRest {d : Nat} (w : WT m) (hm : HM sd m g) (hs : m.1 187 1 = nI sd) (hs8 : sd ≤ 8) : Ct ad μX12_findRest (d + 177) [.ref (ad 187)] m (fun r m' => WT m' ∧ Fx (RS [22, 24, 28, 34, 35, 49]) m m' ∧ ST m' ∧ (HM sd m' g ∧ HL sd 204 0 m' g) ∧ 1 ≤ (m'.1 187 43).toInt ∧ ∃ v : Int32, r = some (.int v) ∧ (0 : Int) ≤ v.toInt ∧ v.toInt ≤ 1 ∧ (v.toInt = 0 ∨ (1 ≤ (m'.1 187 46).toInt ∧ (m'.1 187 45).toInt + (m'.1 187 46).toInt ≤ 2000))) := by
  have z0 : (0 : Int32).toInt = 0 := rfl
  have z1 : (1 : Int32).toInt = 1 := rfl
  have zn1 : (-1 : Int32).toInt = -1 := rfl
  have L : ∀ n : Nat, ∀ (m1 : Wm) (x1 : Int32) (t : Nat), t + n = 2001 → 1 ≤ t → WT m1 → Fx (RS [22, 24, 28, 34, 35, 49]) m m1 → ST m1 → HL sd 204 0 m1 g → 1 ≤ (m1.1 187 43).toInt → (m1.1 187 43).toInt ≤ (t : Int) → 0 ≤ x1.toInt → x1.toInt ≤ 1 → (x1.toInt = 0 ∨ (1 ≤ (m1.1 187 46).toInt ∧ (m1.1 187 45).toInt + (m1.1 187 46).toInt ≤ 2000)) →
      AW ad E0 μX12_findRest (d + 177) (fun r m' => WT m' ∧ Fx (RS [22, 24, 28, 34, 35, 49]) m m' ∧ ST m' ∧ (HM sd m' g ∧ HL sd 204 0 m' g) ∧ 1 ≤ (m'.1 187 43).toInt ∧ ∃ v : Int32, r = some (.int v) ∧ (0 : Int) ≤ v.toInt ∧ v.toInt ≤ 1 ∧ (v.toInt = 0 ∨ (1 ≤ (m'.1 187 46).toInt ∧ (m'.1 187 45).toInt + (m'.1 187 46).toInt ≤ 2000))) 18 [(0, .ref (ad 187)), (1, .int x1), (2, .int (nI t))] [] m1 := by
    intro n
    induction n with
    | zero =>
      intro m1 x1 t ht h1 w1 f1 s1 hq a1 a2 a3 a4 a5
      refine g_X12_findRest_18 ⟨fun _ => ?_, fun c => absurd ((lt_l 2000 2000 rfl (by omega) (by omega)).mpr (by omega)) c⟩
      refine g_X12_findRest_90 ((bringH (x := 0) (na := 57) rfl (by decide) (by decide) w1 hq (by decide)).to ?_)
      rintro _ m2 ⟨rfl, w2, f2, H2⟩
      have e1 := f2.at (a := 187) (k := 43) (by decide)
      have e2 := f2.at (a := 187) (k := 45) (by decide)
      have e3 := f2.at (a := 187) (k := 46) (by decide)
      exact ⟨rfl, bz_of (by omega) (by omega), w2, f1.tr f2 (RS_sub rfl), s1.fx f2 rfl, ⟨H2, hq.fx f2 (fun _ => rfl) rfl⟩, by rw [e1]; exact a1, x1, rfl, a3, a4, by rw [e2, e3]; exact a5⟩
    | succ n ih =>
      intro m1 x1 t ht h1 w1 f1 s1 hq a1 a2 a3 a4 a5
      refine g_X12_findRest_18 ⟨fun c => absurd ((lt_l 2000 2000 rfl (by omega) (by omega)).mp c) (by omega), fun _ => ⟨fun c => ?_, fun c => ?_⟩⟩
      · refine g_X12_findRest_90 ((bringH (x := 0) (na := 57) rfl (by decide) (by decide) w1 hq (by decide)).to ?_)
        rintro _ m2 ⟨rfl, w2, f2, H2⟩
        have e1 := f2.at (a := 187) (k := 43) (by decide)
        have e2 := f2.at (a := 187) (k := 45) (by decide)
        have e3 := f2.at (a := 187) (k := 46) (by decide)
        exact ⟨rfl, bz_of (by omega) (by omega), w2, f1.tr f2 (RS_sub rfl), s1.fx f2 rfl, ⟨H2, hq.fx f2 (fun _ => rfl) rfl⟩, by rw [e1]; exact a1, x1, rfl, a3, a4, by rw [e2, e3]; exact a5⟩
      · refine (s_X12_goTurn w1).to ?_
        rintro _ m2 ⟨w2, f2, rfl⟩
        have e1 := f2.at (a := 187) (k := 43) (by decide)
        have s2 := s1.fx f2 rfl
        refine ⟨rfl, (s_X12_stateNow w2 s2 (Or.inl zn1)).to ?_⟩
        rintro _ m3 ⟨w3, f3, s3, b1, b2, v, rfl, b3, b4, b5, b6⟩
        rw [e1] at b1 b2 b5
        have hv : v.toInt ≠ -1 := fun q => by have := b5 q; omega
        have f3' : Fx (RS [22, 24, 28, 34, 35, 49]) m m3 := (f1.tr f2 (RS_sub rfl)).tr f3 (RS_sub rfl)
        have hq3 := (hq.fx f2 (fun _ => rfl) rfl).fx f3 (fun _ => rfl) rfl
        refine ⟨v, rfl, fun c3 => ?_, fun c3 => ?_⟩
        · refine g_X12_findRest_62 ⟨fun q => absurd rfl q, fun _ => ?_⟩
          rw [nI_1]
          exact ih m3 0 (t + 1) (by omega) (by omega) w3 f3' s3 hq3 (by omega) (by omega) (by decide) (by decide) (Or.inl rfl)
        · have c4 : (m3.1 187 43).toInt = (m2.1 187 43).toInt := congrArg _ c3
          rw [e1] at c4
          refine g_X12_findRest_62 ⟨fun _ => ?_, fun q => absurd q (by decide)⟩
          have tt : (nI t).toInt = (t : Int) := nI_toInt (by omega)
          have q1 := ti_sub (x := nI t) (y := v) (by omega)
          rw [nI_1]
          refine ih _ 1 (t + 1) (by omega) (by omega) ((w3.t rfl (by omega) (by omega)).t rfl (by rw [q1]; omega) (by rw [q1]; omega)) ((f3'.i rfl).i rfl) s3 (hq3.k (fun _ _ _ => rfl)) (by show 1 ≤ (m3.1 187 43).toInt; omega) (by show (m3.1 187 43).toInt ≤ _; omega) (by decide) (by decide) (Or.inr ?_)
          show 1 ≤ (nI t - v).toInt ∧ v.toInt + (nI t - v).toInt ≤ 2000
          rw [q1]
          omega
  refine v_X12_findRest ((r_clear (d := d + 175) w hm hs hs8).to ?_)
  rintro _ m1 ⟨w1, f1, rfl, s1, e1, hm1, hq1⟩
  refine ⟨rfl, (s_X12_stateNow w1 s1 (Or.inl zn1)).to ?_⟩
  rintro _ m2 ⟨w2, f2, s2, b1, b2, v, rfl, b3, b4, b5, b6⟩
  refine ⟨v, rfl, ?_⟩
  exact L 2000 m2 0 1 (by decide) (by decide) w2 (((Fx.rf (S := RS [22, 24, 28, 34, 35, 49])).tr f1 (RS_sub rfl)).tr f2 (RS_sub rfl)) s2 (hq1.fx f2 (fun _ => rfl) rfl) (by omega) (by omega) (by decide) (by decide) (Or.inl rfl)
def rsQ (sd : Nat) (m : Wm) (g : GS) (r : Option Value) (m' : Wm) : Prop := WT m' ∧ Fx (RS [22, 24, 28, 34, 35, 49]) m m' ∧ ST m' ∧ (HM sd m' g ∧ HL sd 204 0 m' g) ∧ 1 ≤ (m'.1 187 43).toInt ∧ ∃ v : Int32, r = some (.int v) ∧ (0 : Int) ≤ v.toInt ∧ v.toInt ≤ 1
def rsI (sd : Nat) (m : Wm) (g : GS) (m1 : Wm) (x2 x3 : Int32) : Prop := WT m1 ∧ Fx (RS [22, 24, 28, 34, 35, 49]) m m1 ∧ ST m1 ∧ 1 ≤ (m1.1 187 43).toInt ∧ 0 ≤ x2.toInt ∧ x2.toInt ≤ 1 ∧ 0 ≤ x3.toInt ∧ HL sd 204 0 m1 g
theorem rs_loop {d : Nat} {x1 : Int32} : ∀ n : Nat,
    (∀ (m1 : Wm) (x2 x3 : Int32), rsI sd m g m1 x2 x3 → x3.toInt ≤ 3000 → (3000 - x3.toInt) * 1000 + 900 < (n : Int) → AW ad E0 μX12_findStates (d + 177) (rsQ sd m g) 18 [(0, .ref (ad 187)), (1, .int x1), (2, .int x2), (3, .int x3)] [] m1) ∧
    (∀ (m1 : Wm) (x2 x3 x4 : Int32), rsI sd m g m1 x2 x3 → x3.toInt < (m1.1 187 43).toInt → 0 ≤ x4.toInt → x4.toInt ≤ 3 → (3000 - x3.toInt) * 1000 + (3 - x4.toInt) * 200 + 190 < (n : Int) → AW ad E0 μX12_findStates (d + 177) (rsQ sd m g) 46 [(0, .ref (ad 187)), (1, .int x1), (2, .int x2), (3, .int x3), (4, .int x4)] [] m1) ∧
    (∀ (m1 : Wm) (x2 x3 x4 x5 : Int32), rsI sd m g m1 x2 x3 → x3.toInt < (m1.1 187 43).toInt → 0 ≤ x4.toInt → x4.toInt ≤ 2 → 0 ≤ x5.toInt → x5.toInt ≤ 8 → (3000 - x3.toInt) * 1000 + (3 - x4.toInt) * 200 + (8 - x5.toInt) * 20 + 19 < (n : Int) → AW ad E0 μX12_findStates (d + 177) (rsQ sd m g) 55 [(0, .ref (ad 187)), (1, .int x1), (2, .int x2), (3, .int x3), (4, .int x4), (5, .int x5)] [] m1) ∧
    (∀ (m1 : Wm) (x2 x3 x4 x5 x6 : Int32), rsI sd m g m1 x2 x3 → x3.toInt < (m1.1 187 43).toInt → 0 ≤ x4.toInt → x4.toInt ≤ 2 → 0 ≤ x5.toInt → x5.toInt ≤ 7 → 0 ≤ x6.toInt → x6.toInt ≤ 9 → (3000 - x3.toInt) * 1000 + (3 - x4.toInt) * 200 + (8 - x5.toInt) * 20 + (9 - x6.toInt) < (n : Int) → AW ad E0 μX12_findStates (d + 177) (rsQ sd m g) 70 [(0, .ref (ad 187)), (1, .int x1), (2, .int x2), (3, .int x3), (4, .int x4), (5, .int x5), (6, .int x6)] [] m1) := by
  intro n
  have z0 : (0 : Int32).toInt = 0 := rfl
  have z1 : (1 : Int32).toInt = 1 := rfl
  have zn1 : (-1 : Int32).toInt = -1 := rfl
  induction n with
  | zero =>
    refine ⟨fun m1 x2 x3 I a b => ?_, fun m1 x2 x3 x4 I a b c e => ?_, fun m1 x2 x3 x4 x5 I a b c e f g => ?_, fun m1 x2 x3 x4 x5 x6 I a b c e f g h i => ?_⟩
    all_goals have t43 := I.1.at (a := 187) (k := 43) rfl
    all_goals exfalso
    all_goals omega
  | succ n ih =>
    have fin : ∀ (m1 : Wm) (x2 x3 : Int32), rsI sd m g m1 x2 x3 → AW ad E0 μX12_findStates (d + 177) (rsQ sd m g) 154 [(0, .ref (ad 187)), (2, .int x2)] [] m1 := by
      intro m1 x2 x3 ⟨w1, f1, s1, a1, a2, a3, a4, hq⟩
      refine g_X12_findStates_154 ((bringH (x := 0) (na := 57) rfl (by decide) (by decide) w1 hq (by decide)).to ?_)
      rintro _ m2 ⟨rfl, w2, f2, H2⟩
      have e1 := f2.at (a := 187) (k := 43) (by decide)
      exact ⟨rfl, bz_of (by omega) (by omega), w2, f1.tr f2 (RS_sub rfl), s1.fx f2 rfl, ⟨H2, hq.fx f2 (fun _ => rfl) rfl⟩, by rw [e1]; exact a1, x2, rfl, a2, a3⟩
    refine ⟨fun m1 x2 x3 I a b => ?_, fun m1 x2 x3 x4 I a b c e => ?_, fun m1 x2 x3 x4 x5 I a b c e f g => ?_, fun m1 x2 x3 x4 x5 x6 I a b c e f g h i => ?_⟩
    · have I' := I
      obtain ⟨w1, f1, s1, a1, a2, a3, a4, hq⟩ := I
      have t43 := w1.at (a := 187) (k := 43) rfl
      refine g_X12_findStates_18 ⟨fun _ => fin _ _ _ I', fun c => ⟨fun _ => fin _ _ _ I', fun _ => ?_⟩⟩
      have c' := z_nle c
      have t1 := ti_addc (x := x3) (y := 1) (c := 1) rfl (by omega)
      refine ⟨vpi (by omega) (by omega), fun _ => ih.2.1 _ _ _ _ I' (by omega) (by decide) (by decide) (by omega), fun _ => ih.1 _ _ _ ⟨w1, f1, s1, a1, a2, a3, by omega, hq⟩ (by omega) (by omega)⟩
    · have I' := I
      obtain ⟨w1, f1, s1, a1, a2, a3, a4, hq⟩ := I
      have t43 := w1.at (a := 187) (k := 43) rfl
      have t1 := ti_addc (x := x3) (y := 1) (c := 1) rfl (by omega)
      refine g_X12_findStates_46 ⟨fun _ => ih.1 _ _ _ ⟨w1, f1, s1, a1, a2, a3, by omega, hq⟩ (by omega) (by omega), fun q => ?_⟩
      have q' := y_nlel (n := 3) rfl q
      exact ih.2.2.1 _ _ _ _ _ I' a b (by omega) (by decide) (by decide) (by omega)
    · have I' := I
      obtain ⟨w1, f1, s1, a1, a2, a3, a4, hq⟩ := I
      have t43 := w1.at (a := 187) (k := 43) rfl
      have t11 := w1.at (a := 187) (k := 1) rfl
      have t1 := ti_addc (x := x4) (y := 1) (c := 1) rfl (by omega)
      have t2 := ti_addc (x := x5) (y := 1) (c := 1) rfl (by omega)
      refine g_X12_findStates_55 ⟨fun _ => ih.2.1 _ _ _ _ I' a (by omega) (by omega) (by omega), fun q => ?_⟩
      have q' := z_nle q
      exact ih.2.2.2 _ _ _ _ _ _ I' a b c e (by omega) (by omega) (by omega) (by omega)
    · have I' := I
      obtain ⟨w1, f1, s1, a1, a2, a3, a4, hq⟩ := I
      have t43 := w1.at (a := 187) (k := 43) rfl
      have t11 := w1.at (a := 187) (k := 1) rfl
      have t2 := ti_addc (x := x5) (y := 1) (c := 1) rfl (by omega)
      have nxt := ih.2.2.1 m1 x2 x3 x4 (x5 + 1) I' a b c (by omega) (by omega) (by omega)
      refine g_X12_findStates_70 ⟨fun _ => nxt, fun q => ⟨fun _ => nxt, fun _ => ?_⟩⟩
      have q' := z_nle q
      have t3 := ti_addc (x := x6) (y := 1) (c := 1) rfl (by omega)
      refine (s_X12_load w1 (by omega) (by omega)).to ?_
      rintro _ m2 ⟨w2, f2, rfl⟩
      refine ⟨rfl, (s_X12_goQuiet w2 (by omega) (by omega) (by omega) (by omega)).to ?_⟩
      rintro _ m3 ⟨w3, f3, rfl⟩
      have f3' := (f1.tr f2 (RS_sub rfl)).tr f3 (RS_sub rfl)
      have s3 := (s1.fx f2 rfl).fx f3 rfl
      have e3 : (m3.1 187 43).toInt = (m1.1 187 43).toInt := congrArg _ ((f3.at (a := 187) (k := 43) (by decide)).trans (f2.at (a := 187) (k := 43) (by decide)))
      refine ⟨rfl, (s_X12_stateNow w3 s3 (Or.inr ⟨by omega, by omega⟩)).to ?_⟩
      rintro _ m4 ⟨w4, f4, s4, b1, b2, v, rfl, -⟩
      have f4' := f3'.tr f4 (RS_sub rfl)
      have hq4 := ((hq.fx f2 (fun _ => rfl) rfl).fx f3 (fun _ => rfl) rfl).fx f4 (fun _ => rfl) rfl
      refine ⟨v, rfl, fun _ => ?_, fun _ => ?_⟩
      · exact ih.2.2.2 _ _ _ _ _ _ ⟨w4, f4', s4, by omega, by decide, by decide, a4, hq4⟩ (by omega) b c e f (by omega) (by omega) (by omega)
      · exact ih.2.2.2 _ _ _ _ _ _ ⟨w4, f4', s4, by omega, by decide, by decide, a4, hq4⟩ (by omega) b c e f (by omega) (by omega) (by omega)
theorem r_findStates {d : Nat} {x1 : Int32} (w : WT m) (hm : HM sd m g) (hs : m.1 187 1 = nI sd) (hs8 : sd ≤ 8) : Ct ad μX12_findStates (d + 177) [.ref (ad 187), .int x1] m (rsQ sd m g) := by
  have z0 : (0 : Int32).toInt = 0 := rfl
  have zn1 : (-1 : Int32).toInt = -1 := rfl
  refine v_X12_findStates ((r_clear (d := d + 175) w hm hs hs8).to ?_)
  rintro _ m1 ⟨w1, f1, rfl, s1, e1, hm1, hq1⟩
  refine ⟨rfl, (s_X12_stateNow w1 s1 (Or.inl zn1)).to ?_⟩
  rintro _ m2 ⟨w2, f2, s2, b1, b2, v, rfl, b3, b4, b5, b6⟩
  refine ⟨v, rfl, ?_⟩
  exact (rs_loop 4000000).1 m2 1 0 ⟨w2, ((Fx.rf (S := RS [22, 24, 28, 34, 35, 49])).tr f1 (RS_sub rfl)).tr f2 (RS_sub rfl), s2, by omega, by decide, by decide, by decide, hq1.fx f2 (fun _ => rfl) rfl⟩ (by decide) (by rw [z0]; decide)
end RSA
/-! SEARCHES AND SEASONS OF THE MODEL: the league is afterwards as it was -/
def RP (S : List Nat) (sd : Nat) (m : Wm) (g : GS) (r : Option Value) (m' : Wm) : Prop := WT m' ∧ Fx (RS S) m m' ∧ HM sd m' g ∧ ∃ v : Int32, r = some (.int v)
section RSB
variable {ad : Nat → Nat} {m : Wm} {g : GS} {sd : Nat}
theorem isSideH {d : Nat} {m : Wm} {x1 : Int32} (w : WT m) : Ct ad μX12_isSide (d + 1) [.ref (ad 187), .int x1] m (fun r m' => m' = m ∧ ∃ v : Int32, r = some (.int v) ∧ (v = 0 ∨ (0 ≤ x1.toInt ∧ x1.toInt < (m.1 187 1).toInt))) := by
  refine (isSide_ok).to ?_
  rintro _ m' ⟨eq, rfl⟩
  have t := w.at (a := 187) (k := 1) rfl
  refine ⟨eq, _, rfl, ?_⟩
  by_cases c : 0 ≤ x1 ∧ x1 ≤ m.1 187 1 - 1
  · have c1 := y_lel (n := 0) rfl c.1
    have c2 := z_le c.2
    have := ti_subc (x := m.1 187 1) (y := (1 : Int32)) (c := 1) rfl (by omega)
    exact Or.inr ⟨by omega, by omega⟩
  · exact Or.inl (if_neg c)
theorem isArtH {d : Nat} {m : Wm} {x1 : Int32} (w : WT m) : Ct ad μX12_isArt (d + 1) [.ref (ad 187), .int x1] m (fun r m' => m' = m ∧ ∃ v : Int32, r = some (.int v) ∧ (v = 0 ∨ (0 ≤ x1.toInt ∧ x1.toInt < (m.1 187 0).toInt))) := by
  refine (isArt_ok).to ?_
  rintro _ m' ⟨eq, rfl⟩
  have t := w.at (a := 187) (k := 0) rfl
  refine ⟨eq, _, rfl, ?_⟩
  by_cases c : 0 ≤ x1 ∧ x1 ≤ m.1 187 0 - 1
  · have c1 := y_lel (n := 0) rfl c.1
    have c2 := z_le c.2
    have := ti_subc (x := m.1 187 0) (y := (1 : Int32)) (c := 1) rfl (by omega)
    exact Or.inr ⟨by omega, by omega⟩
  · exact Or.inl (if_neg c)
theorem inH {d : Nat} {m : Wm} {x lo hi : Int32} {y2 y4 : Int64} (h2 : y2 = lo.toInt64) (h4 : y4 = hi.toInt64) : Ct ad μX12_in d [.long x.toInt64, .long y2, .long y4] m (fun r m' => m' = m ∧ ∃ v : Int32, r = some (.int v) ∧ (v = 0 ∨ (lo.toInt ≤ x.toInt ∧ x.toInt ≤ hi.toInt))) := by
  refine (in_i h2 h4).to ?_
  rintro _ m' ⟨eq, rfl⟩
  refine ⟨eq, _, rfl, ?_⟩
  by_cases c : lo ≤ x ∧ x ≤ hi
  · exact Or.inr ⟨z_le c.1, z_le c.2⟩
  · exact Or.inl (if_neg c)

theorem r_rest {d : Nat} (w : WT m) (hm : HM sd m g) (hs : m.1 187 1 = nI sd) (hs8 : sd ≤ 8) : Ct ad μX12_rest (d + 178) [.ref (ad 187)] m (RP [20, 22, 24, 26, 28, 34, 35, 49] sd m g) := by
  have z0 : (0 : Int32).toInt = 0 := rfl
  have w0 : WT (uI m 187 17 0) := w.n rfl
  have f0 : Fx (RS [20, 22, 24, 26, 28, 34, 35, 49]) m (uI m 187 17 0) := Fx.rf.i rfl
  have hm0 : HM sd (uI m 187 17 0) g := hm
  have hs0 : (uI m 187 17 0).1 187 1 = nI sd := hs
  have ts : (nI sd).toInt = sd := nI_toInt (by omega)
  refine v_X12_rest (d := d + 177) ⟨fun _ => (r_findRest (d := d) w0 hm0 hs0 hs8).to ?_, fun _ => ⟨w0, f0, hm0, _, rfl⟩⟩
  rintro _ m1 ⟨w1, f1, s1, ⟨hm1, hq⟩, h1, v, rfl, a1, a2, a3⟩
  have f1' := f0.tr f1 (RS_sub rfl)
  refine ⟨v, rfl, fun _ => ?_, fun _ => ⟨w1, f1', hm1, _, rfl⟩⟩
  have t45 := w1.at (a := 187) (k := 45) rfl
  refine (s_X12_load (d := d + 177) w1 (by omega) (by omega)).to ?_
  rintro _ m2 ⟨w2, f2, rfl⟩
  refine ⟨rfl, (s_X12_sumOfAll (d := d + 176) w2).to ?_⟩
  rintro _ m3 ⟨w3, f3, v3, rfl⟩
  have hq3 := (hq.fx f2 (fun _ => rfl) rfl).fx f3 (fun _ => rfl) rfl
  refine ⟨v3, rfl, (bringH (x := 0) (na := 57) rfl (by decide) (by decide) w3 hq3 (by decide)).to ?_⟩
  rintro _ m4 ⟨rfl, w4, f4, hm4⟩
  have w5 : WT (uI m4 187 16 (0 : Int32)) := w4.t rfl (by decide) (by decide)
  have f5 : Fx (RS [20, 22, 24, 26, 28, 34, 35, 49]) m (uI m4 187 16 (0 : Int32)) := (((f1'.tr f2 (RS_sub rfl)).tr f3 (RS_sub rfl)).tr f4 (RS_sub rfl)).i rfl
  have hm5 : HM sd (uI m4 187 16 (0 : Int32)) g := hm4
  refine ⟨rfl, (s_X12_tell w5 (by rw [u_eq]; decide)).to ?_⟩
  rintro _ m6 ⟨w6, f6, rfl, p6⟩
  have p6' : (m6.1 187 16).toInt = 0 + 1 := p6
  refine ⟨rfl, (s_X12_tell w6 (by omega)).to ?_⟩
  rintro _ m7 ⟨w7, f7, rfl, -⟩
  exact ⟨rfl, w7, (f5.tr f6 (RS_sub rfl)).tr f7 (RS_sub rfl), (hm5.fx f6 rfl rfl).fx f7 rfl rfl, _, rfl⟩
theorem r_soon {d : Nat} {x1 x2 x3 : Int32} (w : WT m) (hm : HM sd m g) (hs : m.1 187 1 = nI sd) (hs8 : sd ≤ 8) : Ct ad μX12_soon (d + 178) [.ref (ad 187), .int x1, .int x2, .int x3] m (RP [20, 22, 24, 26, 28, 34, 35, 49] sd m g) := by
  have z0 : (0 : Int32).toInt = 0 := rfl
  have w0 : WT (uI m 187 17 0) := w.n rfl
  have f0 : Fx (RS [20, 22, 24, 26, 28, 34, 35, 49]) m (uI m 187 17 0) := Fx.rf.i rfl
  have hm0 : HM sd (uI m 187 17 0) g := hm
  have hs0 : (uI m 187 17 0).1 187 1 = nI sd := hs
  have ts : (nI sd).toInt = sd := nI_toInt (by omega)
  have L : ∀ n : Nat, ∀ (m1 : Wm) (x4 : Int32) (k : Nat), k + n = 3001 → WT m1 → Fx (RS [20, 22, 24, 26, 28, 34, 35, 49]) m m1 → HM sd m1 g → 0 ≤ x1.toInt → x1.toInt ≤ 7 → 0 ≤ x2.toInt → x2.toInt ≤ 3 → AW ad E0 μX12_soon (d + 178) (RP [20, 22, 24, 26, 28, 34, 35, 49] sd m g) 51 [(0, .ref (ad 187)), (1, .int x1), (2, .int x2), (3, .int x3), (4, .int x4), (5, .int (nI k))] [] m1 := by
    intro n
    induction n with
    | zero =>
      intro m1 x4 k hk w1 f1 hm1 a1 a2 a3 a4
      have t43 := w1.at (a := 187) (k := 43) rfl
      have tk : (nI k).toInt = (k : Int) := nI_toInt (by omega)
      exact g_X12_soon_51 (d := d + 177) ⟨fun _ => ⟨fun _ => ⟨w1, f1, hm1, _, rfl⟩, fun _ => ⟨w1, f1, hm1, _, rfl⟩⟩, fun c => absurd (z_nle c) (by omega)⟩
    | succ n ih =>
      intro m1 x4 k hk w1 f1 hm1 a1 a2 a3 a4
      have t43 := w1.at (a := 187) (k := 43) rfl
      have tk : (nI k).toInt = (k : Int) := nI_toInt (by omega)
      refine g_X12_soon_51 (d := d + 177) ⟨fun _ => ⟨fun _ => ⟨w1, f1, hm1, _, rfl⟩, fun _ => ⟨w1, f1, hm1, _, rfl⟩⟩, fun c => ?_⟩
      have c' := z_nle c
      refine (s_X12_skillIn w1 (by omega) (by omega) a1 a2 a3 a4).to ?_
      rintro _ m2 ⟨w2, f2, v, rfl⟩
      have f2' := f1.tr f2 (RS_sub rfl)
      have hm2 := hm1.fx f2 rfl rfl
      refine ⟨v, rfl, fun _ => ?_, fun _ => ⟨w2, f2', hm2, _, rfl⟩⟩
      rw [nI_1]
      exact ih m2 x4 (k + 1) (by omega) w2 f2' hm2 a1 a2 a3 a4
  refine v_X12_soon (d := d + 177) ((isSideH (d := d + 176) w0).to ?_)
  rintro _ m' ⟨eq, v1, rfl, q1⟩
  obtain rfl := eq.symm
  refine ⟨v1, rfl, fun _ => ⟨w0, f0, hm0, _, rfl⟩, fun c1 => (isArtH (d := d + 176) w0).to ?_⟩
  rintro _ m' ⟨eq, v2, rfl, q2⟩
  obtain rfl := eq.symm
  refine ⟨v2, rfl, fun _ => ⟨w0, f0, hm0, _, rfl⟩, fun c2 => (inH (lo := 0) (hi := 7) rfl rfl).to ?_⟩
  rintro _ m' ⟨eq, v3, rfl, q3⟩
  obtain rfl := eq.symm
  refine ⟨v3, rfl, fun _ => ⟨w0, f0, hm0, _, rfl⟩, fun c3 => ⟨fun _ => (r_findRest (d := d) w0 hm0 hs0 hs8).to ?_, fun _ => ⟨w0, f0, hm0, _, rfl⟩⟩⟩
  rintro _ m1 ⟨w1, f1, s1, ⟨hm1, hq⟩, h1, v, rfl, a1, a2, a3⟩
  have u1 := q1.resolve_left c1
  have u2 := q2.resolve_left c2
  have t0 := w0.at (a := 187) (k := 1) rfl
  have t1 := w0.at (a := 187) (k := 0) rfl
  exact ⟨v, rfl, L 3001 m1 v 0 (by decide) w1 (f0.tr f1 (RS_sub rfl)) hm1 (by omega) (by omega) (by omega) (by omega)⟩
theorem r_mean {d : Nat} {x1 x2 : Int32} (w : WT m) (hm : HM sd m g) (hs : m.1 187 1 = nI sd) (hs8 : sd ≤ 8) : Ct ad μX12_mean (d + 178) [.ref (ad 187), .int x1, .int x2] m (RP [20, 22, 24, 26, 28, 34, 35, 49] sd m g) := by
  have z0 : (0 : Int32).toInt = 0 := rfl
  have w0 : WT (uI m 187 17 0) := w.n rfl
  have f0 : Fx (RS [20, 22, 24, 26, 28, 34, 35, 49]) m (uI m 187 17 0) := Fx.rf.i rfl
  have hm0 : HM sd (uI m 187 17 0) g := hm
  have hs0 : (uI m 187 17 0).1 187 1 = nI sd := hs
  have ts : (nI sd).toInt = sd := nI_toInt (by omega)
  have L : ∀ n : Nat, ∀ (m1 : Wm) (y3 : Int64) (x5 : Int32), WT m1 → Fx (RS [20, 22, 24, 26, 28, 34, 35, 49]) m m1 → HM sd m1 g → 0 ≤ x1.toInt → x1.toInt ≤ 7 → 0 ≤ x2.toInt → x2.toInt ≤ 3 → 1 ≤ (m1.1 187 46).toInt → (m1.1 187 45).toInt + (m1.1 187 46).toInt ≤ 2000 → 0 ≤ x5.toInt → x5.toInt ≤ 2000 → 2000 - x5.toInt < (n : Int) → AW ad E0 μX12_mean (d + 178) (RP [20, 22, 24, 26, 28, 34, 35, 49] sd m g) 48 [(0, .ref (ad 187)), (1, .int x1), (2, .int x2), (3, .long y3), (5, .int x5)] [] m1 := by
    intro n
    induction n with
    | zero => intros; exfalso; omega
    | succ n ih =>
      intro m1 y3 x5 w1 f1 hm1 a1 a2 a3 a4 a5 a6 a7 a8 hn
      have t45 := w1.at (a := 187) (k := 45) rfl
      have t46 := w1.at (a := 187) (k := 46) rfl
      have ta := ti_add (x := m1.1 187 45) (y := m1.1 187 46) (by omega)
      refine g_X12_mean_48 (d := d + 177) ⟨fun _ => ?_, fun c => ?_⟩
      · have w2 : WT (uI m1 187 16 (0 : Int32)) := w1.t rfl (by decide) (by decide)
        have hm2 : HM sd (uI m1 187 16 (0 : Int32)) g := hm1
        have ne : ((uI m1 187 16 (0 : Int32)).1 187 46).toInt64 ≠ 0 := fun q => by
          have e : (uI m1 187 16 (0 : Int32)).1 187 46 = m1.1 187 46 := rfl
          rw [e] at q
          have := congrArg Int64.toInt q
          rw [Int32.toInt_toInt64] at this
          have z : (0 : Int64).toInt = 0 := rfl
          omega
        refine (s_X12_tellPart (d := d + 37) w2 ne (by rw [u_eq]; decide)).to ?_
        rintro _ m3 ⟨w3, f3, rfl, -⟩
        exact ⟨rfl, w3, (f1.i rfl).tr f3 (RS_sub rfl), hm2.fx f3 rfl rfl, _, rfl⟩
      · have c' := z_nle c
        refine (s_X12_skillIn w1 (by omega) (by omega) a1 a2 a3 a4).to ?_
        rintro _ m2 ⟨w2, f2, v, rfl⟩
        have e45 : m2.1 187 45 = m1.1 187 45 := f2.at (by decide)
        have e46 : m2.1 187 46 = m1.1 187 46 := f2.at (by decide)
        have t5 := ti_addc (x := x5) (y := (1 : Int32)) (c := 1) rfl (by omega)
        exact ⟨v, rfl, ih m2 _ _ w2 (f1.tr f2 (RS_sub rfl)) (hm1.fx f2 rfl rfl) a1 a2 a3 a4 (by rw [e46]; exact a5) (by rw [e45, e46]; exact a6) (by omega) (by omega) (by omega)⟩
  refine v_X12_mean (d := d + 177) ((isSideH (d := d + 176) w0).to ?_)
  rintro _ m' ⟨eq, v1, rfl, q1⟩
  obtain rfl := eq.symm
  refine ⟨v1, rfl, fun _ => ⟨w0, f0, hm0, _, rfl⟩, fun c1 => (isArtH (d := d + 176) w0).to ?_⟩
  rintro _ m' ⟨eq, v2, rfl, q2⟩
  obtain rfl := eq.symm
  refine ⟨v2, rfl, fun _ => ⟨w0, f0, hm0, _, rfl⟩, fun c2 => ⟨fun _ => (r_findRest (d := d) w0 hm0 hs0 hs8).to ?_, fun _ => ⟨w0, f0, hm0, _, rfl⟩⟩⟩
  rintro _ m1 ⟨w1, f1, s1, ⟨hm1, hq⟩, h1, v, rfl, a1, a2, a3⟩
  have u1 := q1.resolve_left c1
  have u2 := q2.resolve_left c2
  have t0 := w0.at (a := 187) (k := 1) rfl
  have t1 := w0.at (a := 187) (k := 0) rfl
  have t45 := w1.at (a := 187) (k := 45) rfl
  refine ⟨v, rfl, fun c => ?_, fun _ => ⟨w1, f0.tr f1 (RS_sub rfl), hm1, _, rfl⟩⟩
  have c' := y_ner (n := 0) rfl c
  have b := a3.resolve_left c'
  exact L 2001 m1 0 _ w1 (f0.tr f1 (RS_sub rfl)) hm1 (by omega) (by omega) (by omega) (by omega) b.1 b.2 (by omega) (by omega) (by omega)
theorem r_best {d : Nat} {x1 x2 : Int32} (w : WT m) (hm : HM sd m g) (hs : m.1 187 1 = nI sd) (hs8 : sd ≤ 8) : Ct ad μX12_best (d + 178) [.ref (ad 187), .int x1, .int x2] m (RP [20, 22, 24, 26, 28, 34, 35, 49] sd m g) := by
  have z0 : (0 : Int32).toInt = 0 := rfl
  have w0 : WT (uI m 187 17 0) := w.n rfl
  have f0 : Fx (RS [20, 22, 24, 26, 28, 34, 35, 49]) m (uI m 187 17 0) := Fx.rf.i rfl
  have hm0 : HM sd (uI m 187 17 0) g := hm
  have hs0 : (uI m 187 17 0).1 187 1 = nI sd := hs
  have ts : (nI sd).toInt = sd := nI_toInt (by omega)
  have L : ∀ n : Nat, ∀ (m1 : Wm) (x3 x4 : Int32) (k : Nat), k + n = 3001 → WT m1 → Fx (RS [20, 22, 24, 26, 28, 34, 35, 49]) m m1 → HL sd 204 0 m1 g → 0 ≤ x1.toInt → x1.toInt ≤ 7 → 0 ≤ x3.toInt → x3.toInt ≤ 2999 → AW ad E0 μX12_best (d + 178) (RP [20, 22, 24, 26, 28, 34, 35, 49] sd m g) 46 [(0, .ref (ad 187)), (1, .int x1), (3, .int x3), (4, .int x4), (5, .int (nI k))] [] m1 := by
    have fin : ∀ (m1 : Wm) (x3 x4 : Int32), WT m1 → Fx (RS [20, 22, 24, 26, 28, 34, 35, 49]) m m1 → HL sd 204 0 m1 g → 0 ≤ x3.toInt → x3.toInt ≤ 2999 → Ct ad μX12_bring (d + 177) [.ref (ad 187), .ref (ad 204), .int (0 : Int32)] m1 (fun r m2 => r = none ∧ (vp_in x3 3000 ∧ (Ct ad μX12_tell (d + 177) [.ref (ad 187), .long (((uI m2 187 16 (0 : Int32)).1 207 x3.toNatClampNeg).toInt64)] (uI m2 187 16 (0 : Int32)) (fun r m3 => r = none ∧ RP [20, 22, 24, 26, 28, 34, 35, 49] sd m g (some (.int x4)) m3)))) := by
      intro m1 x3 x4 w1 f1 hq a b
      refine (bringH (x := 0) (na := 57) rfl (by decide) (by decide) w1 hq (by decide)).to ?_
      rintro _ m2 ⟨rfl, w2, f2, hm2⟩
      have w3 : WT (uI m2 187 16 (0 : Int32)) := w2.t rfl (by decide) (by decide)
      have hm3 : HM sd (uI m2 187 16 (0 : Int32)) g := hm2
      refine ⟨rfl, vpi (by omega) (by omega), (s_X12_tell w3 (by rw [u_eq]; decide)).to ?_⟩
      rintro _ m4 ⟨w4, f4, rfl, -⟩
      exact ⟨rfl, w4, ((f1.tr f2 (RS_sub rfl)).i rfl).tr f4 (RS_sub rfl), hm3.fx f4 rfl rfl, _, rfl⟩
    intro n
    induction n with
    | zero =>
      intro m1 x3 x4 k hk w1 f1 hq a1 a2 a3 a4
      have t43 := w1.at (a := 187) (k := 43) rfl
      have tk : (nI k).toInt = (k : Int) := nI_toInt (by omega)
      exact g_X12_best_46 (d := d + 177) ⟨fun _ => fin m1 x3 x4 w1 f1 hq a3 a4, fun c => absurd (z_nle c) (by omega)⟩
    | succ n ih =>
      intro m1 x3 x4 k hk w1 f1 hq a1 a2 a3 a4
      have t43 := w1.at (a := 187) (k := 43) rfl
      have tk : (nI k).toInt = (k : Int) := nI_toInt (by omega)
      refine g_X12_best_46 (d := d + 177) ⟨fun _ => fin m1 x3 x4 w1 f1 hq a3 a4, fun c => ?_⟩
      have c' := z_nle c
      refine (s_X12_load (d := d + 177) w1 (by omega) (by omega)).to ?_
      rintro _ m2 ⟨w2, f2, rfl⟩
      refine ⟨rfl, (s_X12_power (d := d + 9) w2 a1 a2).to ?_⟩
      rintro _ m3 ⟨w3, f3, v, rfl⟩
      have f3' := (f1.tr f2 (RS_sub rfl)).tr f3 (RS_sub rfl)
      have hq3 := (hq.fx f2 (fun _ => rfl) rfl).fx f3 (fun _ => rfl) rfl
      rw [nI_1]
      exact ⟨v, rfl, fun _ => ih m3 _ _ (k + 1) (by omega) w3 f3' hq3 a1 a2 (by omega) (by omega), fun _ => ⟨fun _ => ih m3 _ _ (k + 1) (by omega) w3 f3' hq3 a1 a2 (by omega) (by omega), fun _ => ih m3 _ _ (k + 1) (by omega) w3 f3' hq3 a1 a2 a3 a4⟩⟩
  refine v_X12_best (d := d + 177) ((isSideH (d := d + 176) w0).to ?_)
  rintro _ m' ⟨eq, v1, rfl, q1⟩
  obtain rfl := eq.symm
  refine ⟨v1, rfl, fun _ => ⟨w0, f0, hm0, _, rfl⟩, fun c1 => (inH (lo := 0) (hi := 9) rfl rfl).to ?_⟩
  rintro _ m' ⟨eq, v2, rfl, q2⟩
  obtain rfl := eq.symm
  refine ⟨v2, rfl, fun _ => (r_findStates (d := d) w0 hm0 hs0 hs8).to ?_, fun _ => ⟨w0, f0, hm0, _, rfl⟩⟩
  rintro _ m1 ⟨w1, f1, s1, ⟨hm1, hq⟩, h1, v, rfl, -⟩
  have u1 := q1.resolve_left c1
  have t0 := w0.at (a := 187) (k := 1) rfl
  exact ⟨v, rfl, fun _ => L 3001 m1 0 0 0 (by decide) w1 (f0.tr f1 (RS_sub rfl)) hq (by omega) (by omega) (by decide) (by decide), fun _ => ⟨w1, f0.tr f1 (RS_sub rfl), hm1, _, rfl⟩⟩
theorem r_even {d : Nat} {x1 : Int32} (w : WT m) (hm : HM sd m g) (hs : m.1 187 1 = nI sd) (hs8 : sd ≤ 8) : Ct ad μX12_even (d + 178) [.ref (ad 187), .int x1] m (RP [20, 22, 24, 26, 28, 34, 35, 49, 33] sd m g) := by
  have z0 : (0 : Int32).toInt = 0 := rfl
  have w0 : WT (uI m 187 17 0) := w.n rfl
  have f0 : Fx (RS [20, 22, 24, 26, 28, 34, 35, 49, 33]) m (uI m 187 17 0) := Fx.rf.i rfl
  have hm0 : HM sd (uI m 187 17 0) g := hm
  have hs0 : (uI m 187 17 0).1 187 1 = nI sd := hs
  have ts : (nI sd).toInt = sd := nI_toInt (by omega)
  have L : ∀ n : Nat, ∀ (m1 : Wm) (x2 x3 : Int32) (k : Nat), k + n = 3001 → WT m1 → Fx (RS [20, 22, 24, 26, 28, 34, 35, 49, 33]) m m1 → HL sd 204 0 m1 g → 0 ≤ x2.toInt → x2.toInt ≤ 2999 → AW ad E0 μX12_even (d + 178) (RP [20, 22, 24, 26, 28, 34, 35, 49, 33] sd m g) 44 [(0, .ref (ad 187)), (2, .int x2), (3, .int x3), (4, .int (nI k))] [] m1 := by
    have fin : ∀ (m1 : Wm) (x2 x3 : Int32), WT m1 → Fx (RS [20, 22, 24, 26, 28, 34, 35, 49, 33]) m m1 → HL sd 204 0 m1 g → 0 ≤ x2.toInt → x2.toInt ≤ 2999 → Ct ad μX12_bring (d + 177) [.ref (ad 187), .ref (ad 204), .int (0 : Int32)] m1 (fun r m2 => r = none ∧ (vp_in x2 3000 ∧ (Ct ad μX12_tell (d + 177) [.ref (ad 187), .long (((uI m2 187 16 (0 : Int32)).1 207 x2.toNatClampNeg).toInt64)] (uI m2 187 16 (0 : Int32)) (fun r m3 => r = none ∧ RP [20, 22, 24, 26, 28, 34, 35, 49, 33] sd m g (some (.int x3)) m3)))) := by
      intro m1 x2 x3 w1 f1 hq a b
      refine (bringH (x := 0) (na := 57) rfl (by decide) (by decide) w1 hq (by decide)).to ?_
      rintro _ m2 ⟨rfl, w2, f2, hm2⟩
      have w3 : WT (uI m2 187 16 (0 : Int32)) := w2.t rfl (by decide) (by decide)
      have hm3 : HM sd (uI m2 187 16 (0 : Int32)) g := hm2
      refine ⟨rfl, vpi (by omega) (by omega), (s_X12_tell w3 (by rw [u_eq]; decide)).to ?_⟩
      rintro _ m4 ⟨w4, f4, rfl, -⟩
      exact ⟨rfl, w4, ((f1.tr f2 (RS_sub rfl)).i rfl).tr f4 (RS_sub rfl), hm3.fx f4 rfl rfl, _, rfl⟩
    intro n
    induction n with
    | zero =>
      intro m1 x2 x3 k hk w1 f1 hq a3 a4
      have t43 := w1.at (a := 187) (k := 43) rfl
      have tk : (nI k).toInt = (k : Int) := nI_toInt (by omega)
      exact g_X12_even_44 (d := d + 177) ⟨fun _ => fin m1 x2 x3 w1 f1 hq a3 a4, fun c => absurd (z_nle c) (by omega)⟩
    | succ n ih =>
      intro m1 x2 x3 k hk w1 f1 hq a3 a4
      have t43 := w1.at (a := 187) (k := 43) rfl
      have tk : (nI k).toInt = (k : Int) := nI_toInt (by omega)
      refine g_X12_even_44 (d := d + 177) ⟨fun _ => fin m1 x2 x3 w1 f1 hq a3 a4, fun c => ?_⟩
      have c' := z_nle c
      refine (s_X12_load (d := d + 177) w1 (by omega) (by omega)).to ?_
      rintro _ m2 ⟨w2, f2, rfl⟩
      refine ⟨rfl, (s_X12_spreadNow (d := d + 8) w2).to ?_⟩
      rintro _ m3 ⟨w3, f3, v, rfl⟩
      have f3' := (f1.tr f2 (RS_sub rfl)).tr f3 (RS_sub rfl)
      have hq3 := (hq.fx f2 (fun _ => rfl) rfl).fx f3 (fun _ => rfl) rfl
      rw [nI_1]
      exact ⟨v, rfl, fun _ => ih m3 _ _ (k + 1) (by omega) w3 f3' hq3 (by omega) (by omega), fun _ => ⟨fun _ => ih m3 _ _ (k + 1) (by omega) w3 f3' hq3 (by omega) (by omega), fun _ => ih m3 _ _ (k + 1) (by omega) w3 f3' hq3 a3 a4⟩⟩
  refine v_X12_even (d := d + 177) ((inH (lo := 0) (hi := 9) rfl rfl).to ?_)
  rintro _ m' ⟨eq, v1, rfl, q1⟩
  obtain rfl := eq.symm
  refine ⟨v1, rfl, fun _ => ⟨w0, f0, hm0, _, rfl⟩, fun c1 => ⟨fun _ => (r_findStates (d := d) w0 hm0 hs0 hs8).to ?_, fun _ => ⟨w0, f0, hm0, _, rfl⟩⟩⟩
  rintro _ m1 ⟨w1, f1, s1, ⟨hm1, hq⟩, h1, v, rfl, -⟩
  exact ⟨v, rfl, fun _ => L 3001 m1 0 0 0 (by decide) w1 (f0.tr f1 (RS_sub rfl)) hq (by decide) (by decide), fun _ => ⟨w1, f0.tr f1 (RS_sub rfl), hm1, _, rfl⟩⟩
theorem r_all {d : Nat} (w : WT m) (hm : HM sd m g) (hs : m.1 187 1 = nI sd) (hs8 : sd ≤ 8) : Ct ad μX12_all (d + 178) [.ref (ad 187)] m (RP [20, 22, 24, 26, 28, 34, 35, 49] sd m g) := by
  have z0 : (0 : Int32).toInt = 0 := rfl
  have w0 : WT (uI m 187 17 0) := w.n rfl
  have f0 : Fx (RS [20, 22, 24, 26, 28, 34, 35, 49]) m (uI m 187 17 0) := Fx.rf.i rfl
  have hm0 : HM sd (uI m 187 17 0) g := hm
  have hs0 : (uI m 187 17 0).1 187 1 = nI sd := hs
  have ts : (nI sd).toInt = sd := nI_toInt (by omega)
  have L : ∀ n : Nat, ∀ (m1 : Wm) (x1 x2 : Int32) (k : Nat), k + n = 3001 → WT m1 → Fx (RS [20, 22, 24, 26, 28, 34, 35, 49]) m m1 → HL sd 204 0 m1 g → 1 ≤ (m1.1 187 43).toInt → AW ad E0 μX12_all (d + 178) (RP [20, 22, 24, 26, 28, 34, 35, 49] sd m g) 26 [(0, .ref (ad 187)), (1, .int x1), (2, .int x2), (3, .int (nI k))] [] m1 := by
    intro n
    induction n with
    | zero =>
      intro m1 x1 x2 k hk w1 f1 hq a1
      have t43 := w1.at (a := 187) (k := 43) rfl
      have tk : (nI k).toInt = (k : Int) := nI_toInt (by omega)
      refine g_X12_all_26 (d := d + 177) ⟨fun _ => ?_, fun c => absurd (z_nle c) (by omega)⟩
      refine (bringH (x := 0) (na := 57) rfl (by decide) (by decide) w1 hq (by decide)).to ?_
      rintro _ m2 ⟨rfl, w2, f2, hm2⟩
      have e2 : m2.1 187 43 = m1.1 187 43 := f2.at (by decide)
      have w3 : WT (uI m2 187 16 (0 : Int32)) := w2.t rfl (by decide) (by decide)
      have hm3 : HM sd (uI m2 187 16 (0 : Int32)) g := hm2
      refine ⟨rfl, (s_X12_tell w3 (by rw [u_eq]; decide)).to ?_⟩
      rintro _ m4 ⟨w4, f4, rfl, p4⟩
      have p4' : (m4.1 187 16).toInt = 0 + 1 := p4
      refine ⟨rfl, (s_X12_tell w4 (by omega)).to ?_⟩
      rintro _ m5 ⟨w5, f5, rfl, p5⟩
      have e5 : m5.1 187 43 = m1.1 187 43 := (f5.at (by decide)).trans ((f4.at (by decide)).trans e2)
      have t5 := ti_subc (x := m5.1 187 43) (y := (1 : Int32)) (c := 1) rfl (by rw [e5]; omega)
      refine ⟨rfl, vpi (by rw [t5, e5]; omega) (by rw [t5, e5]; omega), (s_X12_tell w5 (by omega)).to ?_⟩
      rintro _ m6 ⟨w6, f6, rfl, -⟩
      exact ⟨rfl, w6, ((((f1.tr f2 (RS_sub rfl)).i rfl).tr f4 (RS_sub rfl)).tr f5 (RS_sub rfl)).tr f6 (RS_sub rfl), ((hm3.fx f4 rfl rfl).fx f5 rfl rfl).fx f6 rfl rfl, _, rfl⟩
    | succ n ih =>
      intro m1 x1 x2 k hk w1 f1 hq a1
      have t43 := w1.at (a := 187) (k := 43) rfl
      have tk : (nI k).toInt = (k : Int) := nI_toInt (by omega)
      refine g_X12_all_26 (d := d + 177) ⟨fun _ => ?_, fun c => ?_⟩
      · refine (bringH (x := 0) (na := 57) rfl (by decide) (by decide) w1 hq (by decide)).to ?_
        rintro _ m2 ⟨rfl, w2, f2, hm2⟩
        have e2 : m2.1 187 43 = m1.1 187 43 := f2.at (by decide)
        have w3 : WT (uI m2 187 16 (0 : Int32)) := w2.t rfl (by decide) (by decide)
        have hm3 : HM sd (uI m2 187 16 (0 : Int32)) g := hm2
        refine ⟨rfl, (s_X12_tell w3 (by rw [u_eq]; decide)).to ?_⟩
        rintro _ m4 ⟨w4, f4, rfl, p4⟩
        have p4' : (m4.1 187 16).toInt = 0 + 1 := p4
        refine ⟨rfl, (s_X12_tell w4 (by omega)).to ?_⟩
        rintro _ m5 ⟨w5, f5, rfl, p5⟩
        have e5 : m5.1 187 43 = m1.1 187 43 := (f5.at (by decide)).trans ((f4.at (by decide)).trans e2)
        have t5 := ti_subc (x := m5.1 187 43) (y := (1 : Int32)) (c := 1) rfl (by rw [e5]; omega)
        refine ⟨rfl, vpi (by rw [t5, e5]; omega) (by rw [t5, e5]; omega), (s_X12_tell w5 (by omega)).to ?_⟩
        rintro _ m6 ⟨w6, f6, rfl, -⟩
        exact ⟨rfl, w6, ((((f1.tr f2 (RS_sub rfl)).i rfl).tr f4 (RS_sub rfl)).tr f5 (RS_sub rfl)).tr f6 (RS_sub rfl), ((hm3.fx f4 rfl rfl).fx f5 rfl rfl).fx f6 rfl rfl, _, rfl⟩
      · have c' := z_nle c
        refine (s_X12_load (d := d + 177) w1 (by omega) (by omega)).to ?_
        rintro _ m2 ⟨w2, f2, rfl⟩
        refine ⟨rfl, (s_X12_sumOfAll (d := d + 176) w2).to ?_⟩
        rintro _ m3 ⟨w3, f3, v, rfl⟩
        have f3' := (f1.tr f2 (RS_sub rfl)).tr f3 (RS_sub rfl)
        have hq3 := (hq.fx f2 (fun _ => rfl) rfl).fx f3 (fun _ => rfl) rfl
        have e43 : m3.1 187 43 = m1.1 187 43 := (f3.at (by decide)).trans (f2.at (by decide))
        rw [nI_1]
        exact ⟨v, rfl, ih m3 _ _ (k + 1) (by omega) w3 f3' hq3 (by rw [e43]; exact a1)⟩
  refine v_X12_all (d := d + 177) ((r_findStates (d := d) w0 hm0 hs0 hs8).to ?_)
  rintro _ m1 ⟨w1, f1, s1, ⟨hm1, hq⟩, h1, v, rfl, -⟩
  exact ⟨v, rfl, fun _ => L 3001 m1 0 256 0 (by decide) w1 (f0.tr f1 (RS_sub rfl)) hq h1, fun _ => ⟨w1, f0.tr f1 (RS_sub rfl), hm1, _, rfl⟩⟩
theorem r_top {d : Nat} {x1 x2 x3 : Int32} (w : WT m) (hm : HM sd m g) (hs : m.1 187 1 = nI sd) (hs8 : sd ≤ 8) : Ct ad μX12_top (d + 178) [.ref (ad 187), .int x1, .int x2, .int x3] m (RP [20, 22, 24, 26, 28, 34, 35, 38, 49] sd m g) := by
  have z0 : (0 : Int32).toInt = 0 := rfl
  have L : ∀ n : Nat, ∀ (m1 : Wm) (k : Nat), k + n = 3001 → WT m1 → Fx (RS [20, 22, 24, 26, 28, 34, 35, 38, 49]) m m1 → ST m1 → HM sd m1 g → 0 ≤ x1.toInt → x1.toInt ≤ 7 → 0 ≤ x2.toInt → x2.toInt ≤ 3 → AW ad E0 μX12_top (d + 178) (RP [20, 22, 24, 26, 28, 34, 35, 38, 49] sd m g) 51 [(0, .ref (ad 187)), (1, .int x1), (2, .int x2), (3, .int x3), (4, .int (nI k))] [] m1 := by
    intro n
    induction n with
    | zero =>
      intro m1 k hk w1 f1 s1 hm1 a1 a2 a3 a4
      have t43 := w1.at (a := 187) (k := 43) rfl
      have tk : (nI k).toInt = (k : Int) := nI_toInt (by omega)
      exact g_X12_top_51 ⟨fun _ => ⟨w1, f1, hm1, _, rfl⟩, fun c => absurd (z_nle c) (by omega)⟩
    | succ n ih =>
      intro m1 k hk w1 f1 s1 hm1 a1 a2 a3 a4
      have t43 := w1.at (a := 187) (k := 43) rfl
      have tk : (nI k).toInt = (k : Int) := nI_toInt (by omega)
      refine g_X12_top_51 ⟨fun _ => ⟨w1, f1, hm1, _, rfl⟩, fun c => ?_⟩
      have c' := z_nle c
      refine (s_X12_skillIn w1 (by omega) (by omega) a1 a2 a3 a4).to ?_
      rintro _ m2 ⟨w2, f2, v, rfl⟩
      have s2 := s1.fx f2 rfl
      have e2 := f2.at (a := 187) (k := 43) (by decide)
      refine ⟨v, rfl, fun _ => ?_, fun _ => (tellWay_ok w2 s2 (by omega) (by rw [e2]; omega)).to ?_⟩
      · rw [nI_1]
        exact ih m2 (k + 1) (by omega) w2 (f1.tr f2 (RS_sub rfl)) s2 (hm1.fx f2 rfl rfl) a1 a2 a3 a4
      · rintro _ m3 ⟨w3, f3, v3, rfl⟩
        exact ⟨v3, rfl, w3, (f1.tr f2 (RS_sub rfl)).tr f3 (RS_sub rfl), (hm1.fx f2 rfl rfl).fx f3 rfl rfl, _, rfl⟩
  have w0 : WT (uI m 187 17 0) := w.n rfl
  have f0 : Fx (RS [20, 22, 24, 26, 28, 34, 35, 38, 49]) m (uI m 187 17 0) := Fx.rf.i rfl
  refine v_X12_top ((s_X12_isSide w0).to ?_)
  rintro _ m1 ⟨w1, f1, v1, rfl, a1, a2, a3⟩
  have f1' := f0.tr f1 (RS_sub rfl)
  have hm1 : HM sd m1 g := HM.fx (m := uI m 187 17 0) hm f1 rfl rfl
  have hs1 : m1.1 187 1 = nI sd := (f1.at (nRS (ρ := 23) rfl rfl)).trans hs
  refine ⟨v1, rfl, fun _ => ⟨w1, f1', hm1, _, rfl⟩, fun c1 => (s_X12_isArt w1).to ?_⟩
  rintro _ m2 ⟨w2, f2, v2, rfl, b1, b2, b3⟩
  have f2' := f1'.tr f2 (RS_sub rfl)
  have hm2 := hm1.fx f2 rfl rfl
  have hs2 : m2.1 187 1 = nI sd := (f2.at (nRS (ρ := 23) rfl rfl)).trans hs1
  refine ⟨v2, rfl, fun _ => ⟨w2, f2', hm2, _, rfl⟩, fun c2 => (s_X12_in (x := x3) (lo := 0) (hi := 7) w2 rfl rfl).to ?_⟩
  rintro _ m3 ⟨w3, f3, v3, rfl, -⟩
  have f3' := f2'.tr f3 (RS_sub rfl)
  have hm3 := hm2.fx f3 rfl rfl
  have hs3 : m3.1 187 1 = nI sd := (f3.at (nRS (ρ := 23) rfl rfl)).trans hs2
  refine ⟨v3, rfl, fun _ => (r_findStates w3 hm3 hs3 hs8).to ?_, fun _ => ⟨w3, f3', hm3, _, rfl⟩⟩
  rintro _ m4 ⟨w4, f4, s4, ⟨hm4, hq4⟩, g4, v4, rfl, -⟩
  have f4' := f3'.tr f4 (RS_sub rfl)
  have k1 := z_ne c1
  have k2 := z_ne c2
  have t0 := w0.at (a := 187) (k := 1) rfl
  have t1 := w1.at (a := 187) (k := 0) rfl
  refine ⟨v4, rfl, fun _ => L 3001 m4 0 (by decide) w4 f4' s4 hm4 (by omega) (by omega) (by omega) (by omega), fun _ => ⟨w4, f4', hm4, _, rfl⟩⟩
theorem r_quick {d : Nat} {x1 : Int32} (w : WT m) (hm : HM sd m g) (hs : m.1 187 1 = nI sd) (hs8 : sd ≤ 8) : Ct ad μX12_quick (d + 178) [.ref (ad 187), .int x1] m (RP [20, 22, 24, 26, 28, 34, 35, 38, 49] sd m g) := by
  have z0 : (0 : Int32).toInt = 0 := rfl
  have zn1 : (-1 : Int32).toInt = -1 := rfl
  have w0 : WT (uI m 187 17 0) := w.n rfl
  have f0 : Fx (RS [20, 22, 24, 26, 28, 34, 35, 38, 49]) m (uI m 187 17 0) := Fx.rf.i rfl
  have L100 : ∀ (m1 : Wm) (x2 : Int32), WT m1 → Fx (RS [20, 22, 24, 26, 28, 34, 35, 38, 49]) m m1 → ST m1 → HL sd 204 0 m1 g → x2.toInt = -1 ∨ (0 ≤ x2.toInt ∧ x2.toInt < (m1.1 187 43).toInt) → AW ad E0 μX12_quick (d + 178) (RP [20, 22, 24, 26, 28, 34, 35, 38, 49] sd m g) 100 [(0, .ref (ad 187)), (2, .int x2)] [] m1 := by
    intro m1 x2 w1 f1 s1 hq h
    refine g_X12_quick_100 ((bringH (x := 0) (na := 57) rfl (by decide) (by decide) w1 hq (by decide)).to ?_)
    rintro _ m2 ⟨rfl, w2, f2, hm2⟩
    have s2 := s1.fx f2 rfl
    have e2 := f2.at (a := 187) (k := 43) (by decide)
    refine ⟨rfl, fun c => ?_, fun _ => ⟨w2, f1.tr f2 (RS_sub rfl), hm2, _, rfl⟩⟩
    have c' := z_ne c
    refine (tellWay_ok w2 s2 (by omega) (by rw [e2]; omega)).to ?_
    rintro _ m3 ⟨w3, f3, v3, rfl⟩
    exact ⟨v3, rfl, w3, (f1.tr f2 (RS_sub rfl)).tr f3 (RS_sub rfl), hm2.fx f3 rfl rfl, _, rfl⟩
  have L : ∀ n : Nat, (∀ (m1 : Wm) (x2 x3 : Int32), WT m1 → Fx (RS [20, 22, 24, 26, 28, 34, 35, 38, 49]) m m1 → ST m1 → HL sd 204 0 m1 g → (x2.toInt = -1 ∨ (0 ≤ x2.toInt ∧ x2.toInt < (m1.1 187 43).toInt)) → 0 ≤ x3.toInt → x3.toInt ≤ 3000 → (3000 - x3.toInt) * 20 + 15 < (n : Int) → AW ad E0 μX12_quick (d + 178) (RP [20, 22, 24, 26, 28, 34, 35, 38, 49] sd m g) 22 [(0, .ref (ad 187)), (1, .int x1), (2, .int x2), (3, .int x3)] [] m1) ∧
      (∀ (m1 : Wm) (x3 x4 x5 : Int32), WT m1 → Fx (RS [20, 22, 24, 26, 28, 34, 35, 38, 49]) m m1 → ST m1 → HL sd 204 0 m1 g → 0 ≤ x3.toInt → x3.toInt < (m1.1 187 43).toInt → 0 ≤ x5.toInt → x5.toInt ≤ 8 → (3000 - x3.toInt) * 20 + 10 - x5.toInt < (n : Int) → AW ad E0 μX12_quick (d + 178) (RP [20, 22, 24, 26, 28, 34, 35, 38, 49] sd m g) 46 [(0, .ref (ad 187)), (1, .int x1), (3, .int x3), (4, .int x4), (5, .int x5)] [] m1) ∧
      (∀ (m1 : Wm) (x3 x4 : Int32), WT m1 → Fx (RS [20, 22, 24, 26, 28, 34, 35, 38, 49]) m m1 → ST m1 → HL sd 204 0 m1 g → 0 ≤ x3.toInt → x3.toInt < (m1.1 187 43).toInt → (3000 - x3.toInt) * 20 < (n : Int) → AW ad E0 μX12_quick (d + 178) (RP [20, 22, 24, 26, 28, 34, 35, 38, 49] sd m g) 83 [(0, .ref (ad 187)), (1, .int x1), (3, .int x3), (4, .int x4)] [] m1) := by
    intro n
    induction n with
    | zero =>
      refine ⟨fun m1 x2 x3 w1 f1 s1 hq h a b c => ?_, fun m1 x3 x4 x5 w1 f1 s1 hq a b c e g => ?_, fun m1 x3 x4 w1 f1 s1 hq a b c => ?_⟩
      all_goals have t43 := w1.at (a := 187) (k := 43) rfl
      all_goals exfalso
      all_goals omega
    | succ n ih =>
      refine ⟨fun m1 x2 x3 w1 f1 s1 hq h a b c => ?_, fun m1 x3 x4 x5 w1 f1 s1 hq a b c e g => ?_, fun m1 x3 x4 w1 f1 s1 hq a b c => ?_⟩
      all_goals have t43 := w1.at (a := 187) (k := 43) rfl
      · refine g_X12_quick_22 ⟨fun _ => L100 _ _ w1 f1 s1 hq h, fun q => ⟨fun _ => L100 _ _ w1 f1 s1 hq h, fun _ => ?_⟩⟩
        have q' := z_nle q
        refine (s_X12_load w1 (by omega) (by omega)).to ?_
        rintro _ m2 ⟨w2, f2, rfl⟩
        have e2 := f2.at (a := 187) (k := 43) (by decide)
        exact ⟨rfl, ih.2.1 m2 x3 1 0 w2 (f1.tr f2 (RS_sub rfl)) (s1.fx f2 rfl) (hq.fx f2 (fun _ => rfl) rfl) a (by rw [e2]; omega) (by decide) (by decide) (by omega)⟩
      · have t11 := w1.at (a := 187) (k := 1) rfl
        refine g_X12_quick_46 ⟨fun _ => ih.2.2 m1 x3 x4 w1 f1 s1 hq a b (by omega), fun q => ⟨fun _ => ih.2.2 m1 x3 x4 w1 f1 s1 hq a b (by omega), fun _ => ?_⟩⟩
        have q' := z_nle q
        have t5 := ti_addc (x := x5) (y := 1) (c := 1) rfl (by omega)
        refine (s_X12_power w1 (by omega) (by omega)).to ?_
        rintro _ m2 ⟨w2, f2, v, rfl⟩
        have e2 := f2.at (a := 187) (k := 43) (by decide)
        have s2 := s1.fx f2 rfl
        have f2' := f1.tr f2 (RS_sub rfl)
        exact ⟨v, rfl, fun _ => ih.2.1 m2 x3 0 (x5 + 1) w2 f2' s2 (hq.fx f2 (fun _ => rfl) rfl) a (by rw [e2]; omega) (by omega) (by omega) (by omega), fun _ => ih.2.1 m2 x3 1 (x5 + 1) w2 f2' s2 (hq.fx f2 (fun _ => rfl) rfl) a (by rw [e2]; omega) (by omega) (by omega) (by omega)⟩
      · have t3 := ti_addc (x := x3) (y := 1) (c := 1) rfl (by omega)
        exact g_X12_quick_83 ⟨fun _ => ih.1 m1 (-1) (x3 + 1) w1 f1 s1 hq (Or.inl zn1) (by omega) (by omega) (by omega), fun _ => ih.1 m1 x3 (x3 + 1) w1 f1 s1 hq (Or.inr ⟨a, b⟩) (by omega) (by omega) (by omega)⟩
  refine v_X12_quick ((r_findStates w0 hm hs hs8).to ?_)
  rintro _ m4 ⟨w4, f4, s4, ⟨hm4, hq4⟩, g4, v4, rfl, -⟩
  have f4' := f0.tr f4 (RS_sub rfl)
  exact ⟨v4, rfl, fun _ => (L 100000).1 m4 (-1) 0 w4 f4' s4 hq4 (Or.inl zn1) (by decide) (by decide) (by rw [z0]; decide), fun _ => ⟨w4, f4', hm4, _, rfl⟩⟩
end RSB
/-! CHANCES OF GAMES AHEAD: the model's league is afterwards as it was -/
def selfG (m : Wm) : GS := (m.1 188, m.1 190, m.1 191, m.1 192, m.1 187 8)
theorem HM.self {n : Nat} {m : Wm} : HM n m (selfG m) := ⟨fun _ _ => rfl, fun _ _ => rfl, fun _ _ => rfl, fun _ _ => rfl, rfl⟩
def rwQ (sn : Nat) (m : Wm) (gs : GS) (g : Nat) (r : Option Value) (m' : Wm) : Prop := WT m' ∧ Fx (RS [22, 24, 28, 36, 37, 49]) m m' ∧ HM sn m' gs ∧ (∀ j, j < 57 * g → m'.1 211 j = m.1 211 j) ∧ ∃ v : Int64, r = some (.long v)
section RCO
variable {ad : Nat → Nat} {m : Wm}
theorem r_cow : ∀ (k : Nat) {d : Nat} {m : Wm} {x1 x4 : Int32} {g n : Nat} {gs : GS} {sn : Nat}, sn ≤ 8 → WT m → HM sn m gs → g + k = n → n ≤ 6 → 1 ≤ (m.1 187 10).toInt → Ct ad μX12_chanceOfWins (d + 2 * k + 172) [.ref (ad 187), .int x1, .int (nI g), .int (nI n), .int x4] m (rwQ sn m gs g) := by
  intro k
  induction k with
  | zero =>
    intro d m x1 x4 g n gs sn h8 w hm hk hn hG
    obtain rfl : g = n := by omega
    exact v_X12_chanceOfWins ⟨fun _ => ⟨w, Fx.rf, hm, fun _ _ => rfl, _, rfl⟩, fun _ => ⟨fun _ => ⟨fun c => absurd rfl c, fun _ => ⟨w, Fx.rf, hm, fun _ _ => rfl, _, rfl⟩⟩, fun _ => ⟨w, Fx.rf, hm, fun _ _ => rfl, _, rfl⟩⟩⟩
  | succ k ih =>
    intro d m x1 x4 g n gs sn h8 w hm hk hn hG
    have cb : ∀ {m : Wm} {x5 : Int32}, WT m → HM sn m gs → 1 ≤ (m.1 187 10).toInt → Ct ad μX12_chanceBehind (d + 2 * k + 173) [.ref (ad 187), .int x1, .int (nI g), .int (nI n), .int x4, .int x5] m (rwQ sn m gs g) := by
      intro m x5 w hm hG
      obtain ⟨hG0, r, hr, er, v0, v1, v2, hp⟩ := ix_rem w (g := g) (by omega) hG
      refine v_X12_chanceBehind (d := d + 2 * k + 172) ?_
      rw [er]
      have l57 : (57 : Int32) * nI g = nI (57 * g) := l_mul 57 57 rfl g
      have t57 : (nI (57 * g)).toInt = ((57 * g : Nat) : Int) := nI_toInt (by omega)
      rw [l57]
      refine ⟨hG0, v0, v1, (layH (x := 57 * g) (na := 399) (reg := 36) rfl (by decide) (by decide) (fun _ => rfl) (fun _ => rfl) w hm h8 (by omega)).to ?_⟩
      rintro _ m1 ⟨rfl, w1, f1, hL, hO, -⟩
      refine ⟨rfl, v2, (s_X12_settle w1 (hp m w).1.1 (hp m w).1.2 (hp m w).2.1 (hp m w).2.2).to ?_⟩
      rintro _ m2 ⟨w2, f2, rfl⟩
      have f2' : Fx (RS [22, 24, 28, 36, 37, 49]) m m2 := ((Fx.rf (S := RS [22, 24, 28, 36, 37, 49])).tr f1 (RS_sub rfl)).tr f2 (RS_sub rfl)
      have h10 : (m2.1 187 10).toInt = (m.1 187 10).toInt := congrArg _ (f2'.at (by decide))
      have J109 : ∀ s0 : Int32, AW ad E0 μX12_chanceBehind (d + 2 * k + 173) (rwQ sn m gs g) 109 [(0, .ref (ad 187)), (2, .int (nI g))] [.int s0, .int x4, .int (nI n), .int (nI g + 1), .int x1, .ref (ad 187)] m2 := by
        intro s0
        refine g_X12_chanceBehind_109 ?_
        rw [nI_1, l57]
        refine (ih (gs := selfG m2) (sn := sn) h8 w2 HM.self (by omega) hn (by omega)).to ?_
        rintro _ m3 ⟨w3, f3, -, b3, v, rfl⟩
        have hL3 : HL sn 211 (57 * g) m3 gs := (hL.fx f2 (fun _ => rfl) rfl).k (fun k h1 h2 => b3 k (by omega))
        refine ⟨v, rfl, (bringH (x := 57 * g) (na := 399) rfl (by decide) (by decide) w3 hL3 (by omega)).to ?_⟩
        rintro _ m4 ⟨rfl, w4, f4, hm4⟩
        exact ⟨rfl, w4, (f2'.tr f3 (RS_sub rfl)).tr f4 (RS_sub rfl), hm4, fun j hj => (f4.at (nRS (ρ := 36) rfl rfl)).trans ((b3 j (by omega)).trans ((f2.at (nRS (ρ := 36) rfl rfl)).trans (hO j (by omega)))), v, rfl⟩
      have J89 : ∀ s0 : Int32, AW ad E0 μX12_chanceBehind (d + 2 * k + 173) (rwQ sn m gs g) 89 [(0, .ref (ad 187)), (1, .int x1), (2, .int (nI g)), (3, .int (nI n)), (4, .int x4)] [.int s0] m2 := fun s0 => g_X12_chanceBehind_89 ⟨fun _ => J109 0, fun _ => J109 1⟩
      have J72 : ∀ x8 : Int32, AW ad E0 μX12_chanceBehind (d + 2 * k + 173) (rwQ sn m gs g) 72 [(0, .ref (ad 187)), (1, .int x1), (2, .int (nI g)), (3, .int (nI n)), (4, .int x4), (5, .int x5), (8, .int x8)] [] m2 := fun x8 => g_X12_chanceBehind_72 ⟨fun _ => J89 0, fun _ => ⟨fun _ => J89 0, fun _ => J89 1⟩⟩
      exact ⟨rfl, fun _ => J72 _, fun _ => ⟨fun _ => J89 1, fun _ => J72 _⟩⟩
    rw [show d + 2 * (k + 1) + 172 = d + 2 * k + 174 by omega]
    refine v_X12_chanceOfWins (d := d + 2 * k + 173) ⟨fun _ => ⟨w, Fx.rf, hm, fun _ _ => rfl, _, rfl⟩, fun _ => ⟨fun _ => ⟨fun _ => ?_, fun _ => ⟨w, Fx.rf, hm, fun _ _ => rfl, _, rfl⟩⟩, fun _ => ⟨w, Fx.rf, hm, fun _ _ => rfl, _, rfl⟩⟩⟩
    obtain ⟨hG0, r, hr, er, v0, v1, v2, hp⟩ := ix_rem w (g := g) (by omega) hG
    rw [er]
    refine ⟨hG0, v0, v1, v2, fun _ => (s_X12_chanceOf w (hp m w).1.1 (hp m w).1.2 (hp m w).2.1 (hp m w).2.2).to ?_, fun _ => (s_X12_winner w (hp m w).1.1 (hp m w).1.2 (hp m w).2.1 (hp m w).2.2).to ?_⟩
    · rintro _ m1 ⟨w1, f1, v, rfl, b1, b2⟩
      have hm1 := hm.fx f1 rfl rfl
      have o1 : ∀ j, j < 57 * g → m1.1 211 j = m.1 211 j := fun j _ => f1.at (nRS (ρ := 36) rfl rfl)
      have J : ∀ (m2 : Wm) (y9 z0 : Int64), WT m2 → Fx (RS [22, 24, 28, 36, 37, 49]) m m2 → HM sn m2 gs → (∀ j, j < 57 * g → m2.1 211 j = m.1 211 j) → AW ad E0 μX12_chanceOfWins (d + 2 * k + 174) (rwQ sn m gs g) 131 [(0, .ref (ad 187)), (1, .int x1), (2, .int (nI g)), (3, .int (nI n)), (4, .int x4), (9, .long y9)] [.long z0] m2 := by
        intro m2 y9 z0 w2 f2 hm2 o2
        refine g_X12_chanceOfWins_131 (d := d + 2 * k + 173) ⟨fun _ => ⟨w2, f2, hm2, o2, _, rfl⟩, fun _ => (cb w2 hm2 (by rw [f2.at (a := 187) (k := 10) (by decide)]; exact hG)).to ?_⟩
        rintro _ m3 ⟨w3, f3, hm3, o3, v3, rfl⟩
        exact ⟨v3, rfl, w3, f2.tr f3 (RS_sub rfl), hm3, fun j hj => (o3 j hj).trans (o2 j hj), _, rfl⟩
      have f1' : Fx (RS [22, 24, 28, 36, 37, 49]) m m1 := (Fx.rf (S := RS [22, 24, 28, 36, 37, 49])).tr f1 (RS_sub rfl)
      refine ⟨v, rfl, fun _ => J m1 _ _ w1 f1' hm1 o1, fun _ => (cb w1 hm1 (by rw [f1.at (a := 187) (k := 10) (by decide)]; exact hG)).to ?_⟩
      rintro _ m3 ⟨w3, f3, hm3, o3, v3, rfl⟩
      exact ⟨v3, rfl, J m3 _ _ w3 (f1'.tr f3 (RS_sub rfl)) hm3 (fun j hj => (o3 j hj).trans (o1 j hj))⟩
    · rintro _ m1 ⟨w1, f1, v, rfl, b1, b2⟩
      have hm1 := hm.fx f1 rfl rfl
      have o1 : ∀ j, j < 57 * g → m1.1 211 j = m.1 211 j := fun j _ => f1.at (nRS (ρ := 36) rfl rfl)
      refine ⟨v, rfl, (cb w1 hm1 (by rw [f1.at (a := 187) (k := 10) (by decide)]; exact hG)).to ?_⟩
      rintro _ m3 ⟨w3, f3, hm3, o3, v3, rfl⟩
      exact ⟨v3, rfl, w3, ((Fx.rf (S := RS [22, 24, 28, 36, 37, 49])).tr f1 (RS_sub rfl)).tr f3 (RS_sub rfl), hm3, fun j hj => (o3 j hj).trans (o1 j hj), _, rfl⟩
theorem r_hop : ∀ (k : Nat) {d : Nat} {m : Wm} {g n : Nat} {gs : GS} {sn : Nat}, sn ≤ 8 → WT m → HM sn m gs → g + k = n → n ≤ 6 → 1 ≤ (m.1 187 10).toInt → Ct ad μX12_hopeOf (d + 2 * k + 172) [.ref (ad 187), .int (nI g), .int (nI n)] m (rwQ sn m gs g) := by
  intro k
  induction k with
  | zero =>
    intro d m g n gs sn h8 w hm hk hn hG
    obtain rfl : g = n := by omega
    refine v_X12_hopeOf ⟨fun c => absurd rfl c, fun _ => (s_X12_sumOfAll w).to ?_⟩
    rintro _ m1 ⟨w1, f1, v, rfl⟩
    have hm1 := hm.fx f1 rfl rfl
    exact ⟨v, rfl, (w1.n rfl).n rfl, (((Fx.rf (S := RS [22, 24, 28, 36, 37, 49])).tr f1 (RS_sub rfl)).i rfl).i rfl, hm1, fun j _ => f1.at (nRS (ρ := 36) rfl rfl), _, rfl⟩
  | succ k ih =>
    intro d m g n gs sn h8 w hm hk hn hG
    have hgn : nI g ≠ nI n := fun q => by
      have := congrArg Int32.toInt q
      rw [nI_toInt (by omega), nI_toInt (by omega)] at this
      omega
    have cb : ∀ {m : Wm} {x5 : Int32}, WT m → HM sn m gs → 1 ≤ (m.1 187 10).toInt → Ct ad μX12_hopeBehind (d + 2 * k + 173) [.ref (ad 187), .int (nI g), .int (nI n), .int x5] m (rwQ sn m gs g) := by
      intro m x5 w hm hG
      obtain ⟨hG0, r, hr, er, v0, v1, v2, hp⟩ := ix_rem w (g := g) (by omega) hG
      refine v_X12_hopeBehind (d := d + 2 * k + 172) ?_
      rw [er]
      have l57 : (57 : Int32) * nI g = nI (57 * g) := l_mul 57 57 rfl g
      have t57 : (nI (57 * g)).toInt = ((57 * g : Nat) : Int) := nI_toInt (by omega)
      rw [l57, nI_1]
      refine ⟨hG0, (layH (x := 57 * g) (na := 399) (reg := 36) rfl (by decide) (by decide) (fun _ => rfl) (fun _ => rfl) w hm h8 (by omega)).to ?_⟩
      rintro _ m1 ⟨rfl, w1, f1, hL, hO, -⟩
      refine ⟨rfl, v0, v1, v2, (s_X12_settle w1 (hp m1 w1).1.1 (hp m1 w1).1.2 (hp m1 w1).2.1 (hp m1 w1).2.2).to ?_⟩
      rintro _ m2 ⟨w2, f2, rfl⟩
      have f2' : Fx (RS [22, 24, 28, 36, 37, 49]) m m2 := ((Fx.rf (S := RS [22, 24, 28, 36, 37, 49])).tr f1 (RS_sub rfl)).tr f2 (RS_sub rfl)
      have h10 : (m2.1 187 10).toInt = (m.1 187 10).toInt := congrArg _ (f2'.at (by decide))
      refine ⟨rfl, (ih (gs := selfG m2) (sn := sn) h8 w2 HM.self (by omega) hn (by omega)).to ?_⟩
      rintro _ m3 ⟨w3, f3, -, b3, v, rfl⟩
      have hL3 : HL sn 211 (57 * g) m3 gs := (hL.fx f2 (fun _ => rfl) rfl).k (fun k h1 h2 => b3 k (by omega))
      refine ⟨v, rfl, (bringH (x := 57 * g) (na := 399) rfl (by decide) (by decide) w3 hL3 (by omega)).to ?_⟩
      rintro _ m4 ⟨rfl, w4, f4, hm4⟩
      exact ⟨rfl, w4, (f2'.tr f3 (RS_sub rfl)).tr f4 (RS_sub rfl), hm4, fun j hj => (f4.at (nRS (ρ := 36) rfl rfl)).trans ((b3 j (by omega)).trans ((f2.at (nRS (ρ := 36) rfl rfl)).trans (hO j (by omega)))), v, rfl⟩
    rw [show d + 2 * (k + 1) + 172 = d + 2 * k + 174 by omega]
    refine v_X12_hopeOf (d := d + 2 * k + 173) ⟨fun _ => ?_, fun c => absurd c hgn⟩
    obtain ⟨hG0, r, hr, er, v0, v1, v2, hp⟩ := ix_rem w (g := g) (by omega) hG
    rw [er]
    refine ⟨hG0, v2, fun _ => ⟨v0, v1, (s_X12_chanceOf w (hp m w).1.1 (hp m w).1.2 (hp m w).2.1 (hp m w).2.2).to ?_⟩, fun _ => ⟨v0, v1, (s_X12_winner w (hp m w).1.1 (hp m w).1.2 (hp m w).2.1 (hp m w).2.2).to ?_⟩⟩
    · rintro _ m1 ⟨w1, f1, v, rfl, b1, b2⟩
      have hm1 := hm.fx f1 rfl rfl
      have o1 : ∀ j, j < 57 * g → m1.1 211 j = m.1 211 j := fun j _ => f1.at (nRS (ρ := 36) rfl rfl)
      have J : ∀ (m2 : Wm) (y9 z0 : Int64), WT m2 → Fx (RS [22, 24, 28, 36, 37, 49]) m m2 → HM sn m2 gs → (∀ j, j < 57 * g → m2.1 211 j = m.1 211 j) → AW ad E0 μX12_hopeOf (d + 2 * k + 174) (rwQ sn m gs g) 134 [(0, .ref (ad 187)), (1, .int (nI g)), (2, .int (nI n)), (5, .long y9)] [.long z0] m2 := by
        intro m2 y9 z0 w2 f2 hm2 o2
        refine g_X12_hopeOf_134 (d := d + 2 * k + 173) ⟨fun _ => ⟨w2, f2, hm2, o2, _, rfl⟩, fun _ => (cb w2 hm2 (by rw [f2.at (a := 187) (k := 10) (by decide)]; exact hG)).to ?_⟩
        rintro _ m3 ⟨w3, f3, hm3, o3, v3, rfl⟩
        exact ⟨v3, rfl, w3, f2.tr f3 (RS_sub rfl), hm3, fun j hj => (o3 j hj).trans (o2 j hj), _, rfl⟩
      have f1' : Fx (RS [22, 24, 28, 36, 37, 49]) m m1 := (Fx.rf (S := RS [22, 24, 28, 36, 37, 49])).tr f1 (RS_sub rfl)
      refine ⟨v, rfl, fun _ => J m1 _ _ w1 f1' hm1 o1, fun _ => (cb w1 hm1 (by rw [f1.at (a := 187) (k := 10) (by decide)]; exact hG)).to ?_⟩
      rintro _ m3 ⟨w3, f3, hm3, o3, v3, rfl⟩
      exact ⟨v3, rfl, J m3 _ _ w3 (f1'.tr f3 (RS_sub rfl)) hm3 (fun j hj => (o3 j hj).trans (o1 j hj))⟩
    · rintro _ m1 ⟨w1, f1, v, rfl, b1, b2⟩
      have hm1 := hm.fx f1 rfl rfl
      have o1 : ∀ j, j < 57 * g → m1.1 211 j = m.1 211 j := fun j _ => f1.at (nRS (ρ := 36) rfl rfl)
      refine ⟨v, rfl, (cb w1 hm1 (by rw [f1.at (a := 187) (k := 10) (by decide)]; exact hG)).to ?_⟩
      rintro _ m3 ⟨w3, f3, hm3, o3, v3, rfl⟩
      exact ⟨v3, rfl, w3, ((Fx.rf (S := RS [22, 24, 28, 36, 37, 49])).tr f1 (RS_sub rfl)).tr f3 (RS_sub rfl), hm3, fun j hj => (o3 j hj).trans (o1 j hj), _, rfl⟩
theorem r_chanceOfWins {d : Nat} {x1 x3 x4 : Int32} {gs : GS} {sn : Nat} (h8 : sn ≤ 8) (w : WT m) (hm : HM sn m gs) (i1 : 0 ≤ x3.toInt) (i2 : x3.toInt ≤ 6) (i3 : 1 ≤ (m.1 187 10).toInt) : Ct ad μX12_chanceOfWins (d + 190) [.ref (ad 187), .int x1, .int 0, .int x3, .int x4] m (fun r m' => WT m' ∧ Fx (RS [22, 24, 28, 36, 37, 49]) m m' ∧ HM sn m' gs ∧ ∃ v : Int64, r = some (.long v)) := by
  obtain ⟨n, hn, rfl⟩ := zn_of i1
  rw [nI_toInt hn] at i2
  have h := r_cow (ad := ad) n (d := d + 18 - 2 * n) (x1 := x1) (x4 := x4) (g := 0) (n := n) h8 w hm (by omega) (by omega) i3
  rw [show d + 18 - 2 * n + 2 * n + 172 = d + 190 by omega] at h
  exact h.to (fun r m' q => ⟨q.1, q.2.1, q.2.2.1, q.2.2.2.2⟩)
theorem r_hopeOf {d : Nat} {x2 : Int32} {gs : GS} {sn : Nat} (h8 : sn ≤ 8) (w : WT m) (hm : HM sn m gs) (i1 : 0 ≤ x2.toInt) (i2 : x2.toInt ≤ 6) (i3 : 1 ≤ (m.1 187 10).toInt) : Ct ad μX12_hopeOf (d + 190) [.ref (ad 187), .int 0, .int x2] m (fun r m' => WT m' ∧ Fx (RS [22, 24, 28, 36, 37, 49]) m m' ∧ HM sn m' gs ∧ ∃ v : Int64, r = some (.long v)) := by
  obtain ⟨n, hn, rfl⟩ := zn_of i1
  rw [nI_toInt hn] at i2
  have h := r_hop (ad := ad) n (d := d + 18 - 2 * n) (g := 0) (n := n) h8 w hm (by omega) (by omega) i3
  rw [show d + 18 - 2 * n + 2 * n + 172 = d + 190 by omega] at h
  exact h.to (fun r m' q => ⟨q.1, q.2.1, q.2.2.1, q.2.2.2.2⟩)
end RCO
