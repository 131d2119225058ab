/-! SEARCHES OF THE MODEL LEAVE ITS LEAGUE AS IT IS -/
def ZB (n : Nat) (g : GS) : Prop := ∀ k, 4 * n ≤ k → k < 32 → g.1 k = 0
section RSA
variable {ad : Nat → Nat} {m : Wm} {g : GS} {sd : Nat}
theorem HM.z (h : HM sd m g) {x : Nat} (hz : 4 * sd ≤ x) : HM sd (uI m 188 x 0) g := by
  obtain ⟨h1, h2, h3, h4, h5⟩ := h
  exact ⟨fun k hk => (u_ne (by omega)).trans (h1 k hk), h2, h3, h4, h5⟩
theorem r_clear {d : Nat} (w : WT m) (hm : HM sd m g) (hs : m.1 187 1 = nI sd) (hs8 : sd ≤ 8) : Ct ad μX12_clearStates (d + 1) [.ref (ad 187)] m (fun r m' => WT m' ∧ Fx (RS [24, 34, 35]) m m' ∧ r = none ∧ ST m' ∧ (m'.1 187 43).toInt = 0 ∧ HM sd m' g ∧ HL sd 204 0 m' g) := by
  have z0 : (0 : Int32).toInt = 0 := rfl
  have L2 : ∀ n x (m1 : Wm), x + n = 32 → 4 * sd ≤ x → WT m1 → Fx (RS [24, 34, 35]) m m1 → ST m1 → (m1.1 187 43).toInt = 0 → HM sd m1 g → AW ad E0 μX12_clearStates (d + 1) (fun r m' => WT m' ∧ Fx (RS [24, 34, 35]) m m' ∧ r = none ∧ ST m' ∧ (m'.1 187 43).toInt = 0 ∧ HM sd m' g ∧ HL sd 204 0 m' g) 34 [(0, .ref (ad 187)), (1, .int (nI x))] [] m1 := by
    intro n
    induction n with
    | zero =>
      intro x m1 hx hxs w1 f1 s1 e1 hm1
      obtain rfl : x = 32 := by omega
      refine g_X12_clearStates_34 ⟨fun _ => (layH (x := 0) (na := 57) (reg := 34) rfl (by decide) (by decide) (fun _ => rfl) (fun _ => rfl) w1 hm1 hs8 (by decide)).to ?_, fun c => absurd (by decide) c⟩
      rintro _ m2 ⟨rfl, w2, f2, hq, -, -⟩
      refine ⟨rfl, w2, f1.tr f2 (RS_sub rfl), rfl, s1.fx f2 rfl, ?_, hm1.fx f2 rfl rfl, hq⟩
      rw [f2.at (a := 187) (k := 43) (by decide)]
      exact e1
    | succ n ih =>
      intro x m1 hx hxs w1 f1 s1 e1 hm1
      refine g_X12_clearStates_34 ⟨fun c => absurd ((le_l 32 32 rfl (by omega) (by omega)).mp c) (by omega), fun _ => ⟨nat_in (by omega) (by decide), ?_⟩⟩
      rw [nI_1]
      rw [nI_clamp (by omega)]
      refine ih (x + 1) _ (by omega) (by omega) (w1.n rfl) (f1.i rfl) ?_ e1 (hm1.z hxs)
      exact s1.fx (S := [24]) ((Fx.rf (m := m1)).i rfl) rfl
  have L1 : ∀ n x (m1 : Wm), x + n = 8192 → WT m1 → Fx (RS [24, 34, 35]) m m1 → (∀ k, k < x → m1.1 210 k = 0) → HM sd m1 g → AW ad E0 μX12_clearStates (d + 1) (fun r m' => WT m' ∧ Fx (RS [24, 34, 35]) m m' ∧ r = none ∧ ST m' ∧ (m'.1 187 43).toInt = 0 ∧ HM sd m' g ∧ HL sd 204 0 m' g) 2 [(0, .ref (ad 187)), (1, .int (nI x))] [] m1 := by
    intro n
    induction n with
    | zero =>
      intro x m1 hx w1 f1 h hm1
      obtain rfl : x = 8192 := by omega
      refine g_X12_clearStates_2 ⟨fun _ => ?_, fun c => absurd (by decide) c⟩
      have es : m1.1 187 1 = nI sd := (f1.at (nRS (ρ := 23) rfl rfl)).trans hs
      show AW ad E0 μX12_clearStates (d + 1) _ 34 [(0, .ref (ad 187)), (1, .int ((4 : Int32) * (m1.1 187 1)))] [] (uI m1 187 43 0)
      rw [es, l_mul 4 4 rfl]
      refine L2 (32 - 4 * sd) _ _ (by omega) (Nat.le_refl _) (w1.t rfl (by decide) (by decide)) (f1.i rfl) ⟨?_, fun k hk => ?_, fun k hk => absurd (show (k : Int) < 0 from hk) (by omega)⟩ rfl hm1
      · show ((czf (m1.1 210) 8192 : Nat) : Int) ≤ 0
        rw [czf_zero 8192 h]
        decide
      · show (m1.1 210 k).toInt ≤ 0
        rw [h k hk]
        decide
    | succ n ih =>
      intro x m1 hx w1 f1 h hm1
      refine g_X12_clearStates_2 ⟨fun c => absurd ((le_l 8192 8192 rfl (by omega) (by omega)).mp c) (by omega), fun _ => ⟨nat_in (by omega) (by decide), ?_⟩⟩
      rw [nI_1]
      refine ih (x + 1) _ (by omega) (w1.t rfl (by decide) (by decide)) (f1.i rfl) (fun k hk => ?_) hm1
      show (if 210 = 210 ∧ k = (nI x).toNatClampNeg then (0 : Int32) else m1.1 210 k) = 0
      rw [nI_clamp (by omega)]
      by_cases hkx : k = x
      · rw [if_pos ⟨rfl, hkx⟩]
      · rw [if_neg (fun q => hkx q.2)]
        exact h k (by omega)
  exact v_X12_clearStates (L1 8192 0 m rfl w Fx.rf (fun k hk => absurd hk (by omega)) hm)
theorem r_findRest {d : Nat} (w : WT m) (hm : HM sd m g) (hs : m.1 187 1 = nI sd) (hs8 : sd ≤ 8) : Ct ad μX12_findRest (d + 177) [.ref (ad 187)] m (fun r m' => WT m' ∧ Fx (RS [22, 24, 28, 34, 35, 49]) m m' ∧ ST m' ∧ (HM sd m' g ∧ HL sd 204 0 m' g) ∧ 1 ≤ (m'.1 187 43).toInt ∧ ∃ v : Int32, r = some (.int v) ∧ (0 : Int) ≤ v.toInt ∧ v.toInt ≤ 1 ∧ (v.toInt = 0 ∨ (1 ≤ (m'.1 187 46).toInt ∧ (m'.1 187 45).toInt + (m'.1 187 46).toInt ≤ 2000))) := by
  have z0 : (0 : Int32).toInt = 0 := rfl
  have z1 : (1 : Int32).toInt = 1 := rfl
  have zn1 : (-1 : Int32).toInt = -1 := rfl
  have L : ∀ n : Nat, ∀ (m1 : Wm) (x1 : Int32) (t : Nat), t + n = 2001 → 1 ≤ t → WT m1 → Fx (RS [22, 24, 28, 34, 35, 49]) m m1 → ST m1 → HL sd 204 0 m1 g → 1 ≤ (m1.1 187 43).toInt → (m1.1 187 43).toInt ≤ (t : Int) → 0 ≤ x1.toInt → x1.toInt ≤ 1 → (x1.toInt = 0 ∨ (1 ≤ (m1.1 187 46).toInt ∧ (m1.1 187 45).toInt + (m1.1 187 46).toInt ≤ 2000)) →
      AW ad E0 μX12_findRest (d + 177) (fun r m' => WT m' ∧ Fx (RS [22, 24, 28, 34, 35, 49]) m m' ∧ ST m' ∧ (HM sd m' g ∧ HL sd 204 0 m' g) ∧ 1 ≤ (m'.1 187 43).toInt ∧ ∃ v : Int32, r = some (.int v) ∧ (0 : Int) ≤ v.toInt ∧ v.toInt ≤ 1 ∧ (v.toInt = 0 ∨ (1 ≤ (m'.1 187 46).toInt ∧ (m'.1 187 45).toInt + (m'.1 187 46).toInt ≤ 2000))) 18 [(0, .ref (ad 187)), (1, .int x1), (2, .int (nI t))] [] m1 := by
    intro n
    induction n with
    | zero =>
      intro m1 x1 t ht h1 w1 f1 s1 hq a1 a2 a3 a4 a5
      refine g_X12_findRest_18 ⟨fun _ => ?_, fun c => absurd ((lt_l 2000 2000 rfl (by omega) (by omega)).mpr (by omega)) c⟩
      refine g_X12_findRest_90 ((bringH (x := 0) (na := 57) rfl (by decide) (by decide) w1 hq (by decide)).to ?_)
      rintro _ m2 ⟨rfl, w2, f2, H2⟩
      have e1 := f2.at (a := 187) (k := 43) (by decide)
      have e2 := f2.at (a := 187) (k := 45) (by decide)
      have e3 := f2.at (a := 187) (k := 46) (by decide)
      exact ⟨rfl, bz_of (by omega) (by omega), w2, f1.tr f2 (RS_sub rfl), s1.fx f2 rfl, ⟨H2, hq.fx f2 (fun _ => rfl) rfl⟩, by rw [e1]; exact a1, x1, rfl, a3, a4, by rw [e2, e3]; exact a5⟩
    | succ n ih =>
      intro m1 x1 t ht h1 w1 f1 s1 hq a1 a2 a3 a4 a5
      refine g_X12_findRest_18 ⟨fun c => absurd ((lt_l 2000 2000 rfl (by omega) (by omega)).mp c) (by omega), fun _ => ⟨fun c => ?_, fun c => ?_⟩⟩
      · refine g_X12_findRest_90 ((bringH (x := 0) (na := 57) rfl (by decide) (by decide) w1 hq (by decide)).to ?_)
        rintro _ m2 ⟨rfl, w2, f2, H2⟩
        have e1 := f2.at (a := 187) (k := 43) (by decide)
        have e2 := f2.at (a := 187) (k := 45) (by decide)
        have e3 := f2.at (a := 187) (k := 46) (by decide)
        exact ⟨rfl, bz_of (by omega) (by omega), w2, f1.tr f2 (RS_sub rfl), s1.fx f2 rfl, ⟨H2, hq.fx f2 (fun _ => rfl) rfl⟩, by rw [e1]; exact a1, x1, rfl, a3, a4, by rw [e2, e3]; exact a5⟩
      · refine (s_X12_goTurn w1).to ?_
        rintro _ m2 ⟨w2, f2, rfl⟩
        have e1 := f2.at (a := 187) (k := 43) (by decide)
        have s2 := s1.fx f2 rfl
        refine ⟨rfl, (s_X12_stateNow w2 s2 (Or.inl zn1)).to ?_⟩
        rintro _ m3 ⟨w3, f3, s3, b1, b2, v, rfl, b3, b4, b5, b6⟩
        rw [e1] at b1 b2 b5
        have hv : v.toInt ≠ -1 := fun q => by have := b5 q; omega
        have f3' : Fx (RS [22, 24, 28, 34, 35, 49]) m m3 := (f1.tr f2 (RS_sub rfl)).tr f3 (RS_sub rfl)
        have hq3 := (hq.fx f2 (fun _ => rfl) rfl).fx f3 (fun _ => rfl) rfl
        refine ⟨v, rfl, fun c3 => ?_, fun c3 => ?_⟩
        · refine g_X12_findRest_62 ⟨fun q => absurd rfl q, fun _ => ?_⟩
          rw [nI_1]
          exact ih m3 0 (t + 1) (by omega) (by omega) w3 f3' s3 hq3 (by omega) (by omega) (by decide) (by decide) (Or.inl rfl)
        · have c4 : (m3.1 187 43).toInt = (m2.1 187 43).toInt := congrArg _ c3
          rw [e1] at c4
          refine g_X12_findRest_62 ⟨fun _ => ?_, fun q => absurd q (by decide)⟩
          have tt : (nI t).toInt = (t : Int) := nI_toInt (by omega)
          have q1 := ti_sub (x := nI t) (y := v) (by omega)
          rw [nI_1]
          refine ih _ 1 (t + 1) (by omega) (by omega) ((w3.t rfl (by omega) (by omega)).t rfl (by rw [q1]; omega) (by rw [q1]; omega)) ((f3'.i rfl).i rfl) s3 (hq3.k (fun _ _ _ => rfl)) (by show 1 ≤ (m3.1 187 43).toInt; omega) (by show (m3.1 187 43).toInt ≤ _; omega) (by decide) (by decide) (Or.inr ?_)
          show 1 ≤ (nI t - v).toInt ∧ v.toInt + (nI t - v).toInt ≤ 2000
          rw [q1]
          omega
  refine v_X12_findRest ((r_clear (d := d + 175) w hm hs hs8).to ?_)
  rintro _ m1 ⟨w1, f1, rfl, s1, e1, hm1, hq1⟩
  refine ⟨rfl, (s_X12_stateNow w1 s1 (Or.inl zn1)).to ?_⟩
  rintro _ m2 ⟨w2, f2, s2, b1, b2, v, rfl, b3, b4, b5, b6⟩
  refine ⟨v, rfl, ?_⟩
  exact L 2000 m2 0 1 (by decide) (by decide) w2 (((Fx.rf (S := RS [22, 24, 28, 34, 35, 49])).tr f1 (RS_sub rfl)).tr f2 (RS_sub rfl)) s2 (hq1.fx f2 (fun _ => rfl) rfl) (by omega) (by omega) (by decide) (by decide) (Or.inl rfl)
def rsQ (sd : Nat) (m : Wm) (g : GS) (r : Option Value) (m' : Wm) : Prop := WT m' ∧ Fx (RS [22, 24, 28, 34, 35, 49]) m m' ∧ ST m' ∧ (HM sd m' g ∧ HL sd 204 0 m' g) ∧ 1 ≤ (m'.1 187 43).toInt ∧ ∃ v : Int32, r = some (.int v) ∧ (0 : Int) ≤ v.toInt ∧ v.toInt ≤ 1
def rsI (sd : Nat) (m : Wm) (g : GS) (m1 : Wm) (x2 x3 : Int32) : Prop := WT m1 ∧ Fx (RS [22, 24, 28, 34, 35, 49]) m m1 ∧ ST m1 ∧ 1 ≤ (m1.1 187 43).toInt ∧ 0 ≤ x2.toInt ∧ x2.toInt ≤ 1 ∧ 0 ≤ x3.toInt ∧ HL sd 204 0 m1 g
theorem rs_loop {d : Nat} {x1 : Int32} : ∀ n : Nat,
    (∀ (m1 : Wm) (x2 x3 : Int32), rsI sd m g m1 x2 x3 → x3.toInt ≤ 3000 → (3000 - x3.toInt) * 1000 + 900 < (n : Int) → AW ad E0 μX12_findStates (d + 177) (rsQ sd m g) 18 [(0, .ref (ad 187)), (1, .int x1), (2, .int x2), (3, .int x3)] [] m1) ∧
    (∀ (m1 : Wm) (x2 x3 x4 : Int32), rsI sd m g m1 x2 x3 → x3.toInt < (m1.1 187 43).toInt → 0 ≤ x4.toInt → x4.toInt ≤ 3 → (3000 - x3.toInt) * 1000 + (3 - x4.toInt) * 200 + 190 < (n : Int) → AW ad E0 μX12_findStates (d + 177) (rsQ sd m g) 46 [(0, .ref (ad 187)), (1, .int x1), (2, .int x2), (3, .int x3), (4, .int x4)] [] m1) ∧
    (∀ (m1 : Wm) (x2 x3 x4 x5 : Int32), rsI sd m g m1 x2 x3 → x3.toInt < (m1.1 187 43).toInt → 0 ≤ x4.toInt → x4.toInt ≤ 2 → 0 ≤ x5.toInt → x5.toInt ≤ 8 → (3000 - x3.toInt) * 1000 + (3 - x4.toInt) * 200 + (8 - x5.toInt) * 20 + 19 < (n : Int) → AW ad E0 μX12_findStates (d + 177) (rsQ sd m g) 55 [(0, .ref (ad 187)), (1, .int x1), (2, .int x2), (3, .int x3), (4, .int x4), (5, .int x5)] [] m1) ∧
    (∀ (m1 : Wm) (x2 x3 x4 x5 x6 : Int32), rsI sd m g m1 x2 x3 → x3.toInt < (m1.1 187 43).toInt → 0 ≤ x4.toInt → x4.toInt ≤ 2 → 0 ≤ x5.toInt → x5.toInt ≤ 7 → 0 ≤ x6.toInt → x6.toInt ≤ 9 → (3000 - x3.toInt) * 1000 + (3 - x4.toInt) * 200 + (8 - x5.toInt) * 20 + (9 - x6.toInt) < (n : Int) → AW ad E0 μX12_findStates (d + 177) (rsQ sd m g) 70 [(0, .ref (ad 187)), (1, .int x1), (2, .int x2), (3, .int x3), (4, .int x4), (5, .int x5), (6, .int x6)] [] m1) := by
  intro n
  have z0 : (0 : Int32).toInt = 0 := rfl
  have z1 : (1 : Int32).toInt = 1 := rfl
  have zn1 : (-1 : Int32).toInt = -1 := rfl
  induction n with
  | zero =>
    refine ⟨fun m1 x2 x3 I a b => ?_, fun m1 x2 x3 x4 I a b c e => ?_, fun m1 x2 x3 x4 x5 I a b c e f g => ?_, fun m1 x2 x3 x4 x5 x6 I a b c e f g h i => ?_⟩
    all_goals have t43 := I.1.at (a := 187) (k := 43) rfl
    all_goals exfalso
    all_goals omega
  | succ n ih =>
    have fin : ∀ (m1 : Wm) (x2 x3 : Int32), rsI sd m g m1 x2 x3 → AW ad E0 μX12_findStates (d + 177) (rsQ sd m g) 154 [(0, .ref (ad 187)), (2, .int x2)] [] m1 := by
      intro m1 x2 x3 ⟨w1, f1, s1, a1, a2, a3, a4, hq⟩
      refine g_X12_findStates_154 ((bringH (x := 0) (na := 57) rfl (by decide) (by decide) w1 hq (by decide)).to ?_)
      rintro _ m2 ⟨rfl, w2, f2, H2⟩
      have e1 := f2.at (a := 187) (k := 43) (by decide)
      exact ⟨rfl, bz_of (by omega) (by omega), w2, f1.tr f2 (RS_sub rfl), s1.fx f2 rfl, ⟨H2, hq.fx f2 (fun _ => rfl) rfl⟩, by rw [e1]; exact a1, x2, rfl, a2, a3⟩
    refine ⟨fun m1 x2 x3 I a b => ?_, fun m1 x2 x3 x4 I a b c e => ?_, fun m1 x2 x3 x4 x5 I a b c e f g => ?_, fun m1 x2 x3 x4 x5 x6 I a b c e f g h i => ?_⟩
    · have I' := I
      obtain ⟨w1, f1, s1, a1, a2, a3, a4, hq⟩ := I
      have t43 := w1.at (a := 187) (k := 43) rfl
      refine g_X12_findStates_18 ⟨fun _ => fin _ _ _ I', fun c => ⟨fun _ => fin _ _ _ I', fun _ => ?_⟩⟩
      have c' := z_nle c
      have t1 := ti_addc (x := x3) (y := 1) (c := 1) rfl (by omega)
      refine ⟨vpi (by omega) (by omega), fun _ => ih.2.1 _ _ _ _ I' (by omega) (by decide) (by decide) (by omega), fun _ => ih.1 _ _ _ ⟨w1, f1, s1, a1, a2, a3, by omega, hq⟩ (by omega) (by omega)⟩
    · have I' := I
      obtain ⟨w1, f1, s1, a1, a2, a3, a4, hq⟩ := I
      have t43 := w1.at (a := 187) (k := 43) rfl
      have t1 := ti_addc (x := x3) (y := 1) (c := 1) rfl (by omega)
      refine g_X12_findStates_46 ⟨fun _ => ih.1 _ _ _ ⟨w1, f1, s1, a1, a2, a3, by omega, hq⟩ (by omega) (by omega), fun q => ?_⟩
      have q' := y_nlel (n := 3) rfl q
      exact ih.2.2.1 _ _ _ _ _ I' a b (by omega) (by decide) (by decide) (by omega)
    · have I' := I
      obtain ⟨w1, f1, s1, a1, a2, a3, a4, hq⟩ := I
      have t43 := w1.at (a := 187) (k := 43) rfl
      have t11 := w1.at (a := 187) (k := 1) rfl
      have t1 := ti_addc (x := x4) (y := 1) (c := 1) rfl (by omega)
      have t2 := ti_addc (x := x5) (y := 1) (c := 1) rfl (by omega)
      refine g_X12_findStates_55 ⟨fun _ => ih.2.1 _ _ _ _ I' a (by omega) (by omega) (by omega), fun q => ?_⟩
      have q' := z_nle q
      exact ih.2.2.2 _ _ _ _ _ _ I' a b c e (by omega) (by omega) (by omega) (by omega)
    · have I' := I
      obtain ⟨w1, f1, s1, a1, a2, a3, a4, hq⟩ := I
      have t43 := w1.at (a := 187) (k := 43) rfl
      have t11 := w1.at (a := 187) (k := 1) rfl
      have t2 := ti_addc (x := x5) (y := 1) (c := 1) rfl (by omega)
      have nxt := ih.2.2.1 m1 x2 x3 x4 (x5 + 1) I' a b c (by omega) (by omega) (by omega)
      refine g_X12_findStates_70 ⟨fun _ => nxt, fun q => ⟨fun _ => nxt, fun _ => ?_⟩⟩
      have q' := z_nle q
      have t3 := ti_addc (x := x6) (y := 1) (c := 1) rfl (by omega)
      refine (s_X12_load w1 (by omega) (by omega)).to ?_
      rintro _ m2 ⟨w2, f2, rfl⟩
      refine ⟨rfl, (s_X12_goQuiet w2 (by omega) (by omega) (by omega) (by omega)).to ?_⟩
      rintro _ m3 ⟨w3, f3, rfl⟩
      have f3' := (f1.tr f2 (RS_sub rfl)).tr f3 (RS_sub rfl)
      have s3 := (s1.fx f2 rfl).fx f3 rfl
      have e3 : (m3.1 187 43).toInt = (m1.1 187 43).toInt := congrArg _ ((f3.at (a := 187) (k := 43) (by decide)).trans (f2.at (a := 187) (k := 43) (by decide)))
      refine ⟨rfl, (s_X12_stateNow w3 s3 (Or.inr ⟨by omega, by omega⟩)).to ?_⟩
      rintro _ m4 ⟨w4, f4, s4, b1, b2, v, rfl, -⟩
      have f4' := f3'.tr f4 (RS_sub rfl)
      have hq4 := ((hq.fx f2 (fun _ => rfl) rfl).fx f3 (fun _ => rfl) rfl).fx f4 (fun _ => rfl) rfl
      refine ⟨v, rfl, fun _ => ?_, fun _ => ?_⟩
      · exact ih.2.2.2 _ _ _ _ _ _ ⟨w4, f4', s4, by omega, by decide, by decide, a4, hq4⟩ (by omega) b c e f (by omega) (by omega) (by omega)
      · exact ih.2.2.2 _ _ _ _ _ _ ⟨w4, f4', s4, by omega, by decide, by decide, a4, hq4⟩ (by omega) b c e f (by omega) (by omega) (by omega)
theorem r_findStates {d : Nat} {x1 : Int32} (w : WT m) (hm : HM sd m g) (hs : m.1 187 1 = nI sd) (hs8 : sd ≤ 8) : Ct ad μX12_findStates (d + 177) [.ref (ad 187), .int x1] m (rsQ sd m g) := by
  have z0 : (0 : Int32).toInt = 0 := rfl
  have zn1 : (-1 : Int32).toInt = -1 := rfl
  refine v_X12_findStates ((r_clear (d := d + 175) w hm hs hs8).to ?_)
  rintro _ m1 ⟨w1, f1, rfl, s1, e1, hm1, hq1⟩
  refine ⟨rfl, (s_X12_stateNow w1 s1 (Or.inl zn1)).to ?_⟩
  rintro _ m2 ⟨w2, f2, s2, b1, b2, v, rfl, b3, b4, b5, b6⟩
  refine ⟨v, rfl, ?_⟩
  exact (rs_loop 4000000).1 m2 1 0 ⟨w2, ((Fx.rf (S := RS [22, 24, 28, 34, 35, 49])).tr f1 (RS_sub rfl)).tr f2 (RS_sub rfl), s2, by omega, by decide, by decide, by decide, hq1.fx f2 (fun _ => rfl) rfl⟩ (by decide) (by rw [z0]; decide)
end RSA
