section
/-! TOP, QUICK (model): the way told is a way of states that are there -/
section TQ
variable {ad : Nat → Nat} {m : Wm}
theorem s_X12_top {d : Nat} {x1 x2 x3 : Int32} (w : WT m) : Ct ad μX12_top (d + 178) [.ref (ad 187), .int x1, .int x2, .int x3] m (fun r m' => WT m' ∧ Fx (RS [20, 22, 24, 26, 28, 34, 35, 38, 49]) m m' ∧ ∃ v : Int32, r = some (.int v)) := by
  have z0 : (0 : Int32).toInt = 0 := rfl
  have L : ∀ n : Nat, ∀ (m1 : Wm) (k : Nat), k + n = 3001 → WT m1 → Fx (RS [20, 22, 24, 26, 28, 34, 35, 38, 49]) m m1 → ST m1 → 0 ≤ x1.toInt → x1.toInt ≤ 7 → 0 ≤ x2.toInt → x2.toInt ≤ 3 → AW ad E0 μX12_top (d + 178) (fun r m' => WT m' ∧ Fx (RS [20, 22, 24, 26, 28, 34, 35, 38, 49]) m m' ∧ ∃ v : Int32, r = some (.int v)) 51 [(0, .ref (ad 187)), (1, .int x1), (2, .int x2), (3, .int x3), (4, .int (nI k))] [] m1 := by
    intro n
    induction n with
    | zero =>
      intro m1 k hk w1 f1 s1 a1 a2 a3 a4
      have t43 := w1.at (a := 187) (k := 43) rfl
      have tk : (nI k).toInt = (k : Int) := nI_toInt (by omega)
      exact g_X12_top_51 ⟨fun _ => ⟨w1, f1, _, rfl⟩, fun c => absurd (z_nle c) (by omega)⟩
    | succ n ih =>
      intro m1 k hk w1 f1 s1 a1 a2 a3 a4
      have t43 := w1.at (a := 187) (k := 43) rfl
      have tk : (nI k).toInt = (k : Int) := nI_toInt (by omega)
      refine g_X12_top_51 ⟨fun _ => ⟨w1, f1, _, rfl⟩, fun c => ?_⟩
      have c' := z_nle c
      refine (s_X12_skillIn w1 (by omega) (by omega) a1 a2 a3 a4).to ?_
      rintro _ m2 ⟨w2, f2, v, rfl⟩
      have s2 := s1.fx f2 rfl
      have e2 := f2.at (a := 187) (k := 43) (by decide)
      refine ⟨v, rfl, fun _ => ?_, fun _ => (tellWay_ok w2 s2 (by omega) (by rw [e2]; omega)).to ?_⟩
      · rw [nI_1]
        exact ih m2 (k + 1) (by omega) w2 (f1.tr f2 (RS_sub rfl)) s2 a1 a2 a3 a4
      · rintro _ m3 ⟨w3, f3, v3, rfl⟩
        exact ⟨v3, rfl, w3, (f1.tr f2 (RS_sub rfl)).tr f3 (RS_sub rfl), _, rfl⟩
  have w0 : WT (uI m 187 17 0) := w.n rfl
  have f0 : Fx (RS [20, 22, 24, 26, 28, 34, 35, 38, 49]) m (uI m 187 17 0) := Fx.rf.i rfl
  refine v_X12_top ((s_X12_isSide w0).to ?_)
  rintro _ m1 ⟨w1, f1, v1, rfl, a1, a2, a3⟩
  have f1' := f0.tr f1 (RS_sub rfl)
  refine ⟨v1, rfl, fun _ => ⟨w1, f1', _, rfl⟩, fun c1 => (s_X12_isArt w1).to ?_⟩
  rintro _ m2 ⟨w2, f2, v2, rfl, b1, b2, b3⟩
  have f2' := f1'.tr f2 (RS_sub rfl)
  refine ⟨v2, rfl, fun _ => ⟨w2, f2', _, rfl⟩, fun c2 => (s_X12_in (x := x3) (lo := 0) (hi := 7) w2 rfl rfl).to ?_⟩
  rintro _ m3 ⟨w3, f3, v3, rfl, -⟩
  have f3' := f2'.tr f3 (RS_sub rfl)
  refine ⟨v3, rfl, fun _ => (findStates_ok w3).to ?_, fun _ => ⟨w3, f3', _, rfl⟩⟩
  rintro _ m4 ⟨w4, f4, s4, g4, v4, rfl, -⟩
  have f4' := f3'.tr f4 (RS_sub rfl)
  have k1 := z_ne c1
  have k2 := z_ne c2
  have t0 := w0.at (a := 187) (k := 1) rfl
  have t1 := w1.at (a := 187) (k := 0) rfl
  refine ⟨v4, rfl, fun _ => L 3001 m4 0 (by decide) w4 f4' s4 (by omega) (by omega) (by omega) (by omega), fun _ => ⟨w4, f4', _, rfl⟩⟩
theorem s_X12_quick {d : Nat} {x1 : Int32} (w : WT m) : Ct ad μX12_quick (d + 178) [.ref (ad 187), .int x1] m (fun r m' => WT m' ∧ Fx (RS [20, 22, 24, 26, 28, 34, 35, 38, 49]) m m' ∧ ∃ v : Int32, r = some (.int v)) := by
  have z0 : (0 : Int32).toInt = 0 := rfl
  have zn1 : (-1 : Int32).toInt = -1 := rfl
  have w0 : WT (uI m 187 17 0) := w.n rfl
  have f0 : Fx (RS [20, 22, 24, 26, 28, 34, 35, 38, 49]) m (uI m 187 17 0) := Fx.rf.i rfl
  have L100 : ∀ (m1 : Wm) (x2 : Int32), WT m1 → Fx (RS [20, 22, 24, 26, 28, 34, 35, 38, 49]) m m1 → ST m1 → x2.toInt = -1 ∨ (0 ≤ x2.toInt ∧ x2.toInt < (m1.1 187 43).toInt) → AW ad E0 μX12_quick (d + 178) (fun r m' => WT m' ∧ Fx (RS [20, 22, 24, 26, 28, 34, 35, 38, 49]) m m' ∧ ∃ v : Int32, r = some (.int v)) 100 [(0, .ref (ad 187)), (2, .int x2)] [] m1 := by
    intro m1 x2 w1 f1 s1 h
    refine g_X12_quick_100 ((s_X12_bring_204 w1 (by decide) (by decide)).to ?_)
    rintro _ m2 ⟨w2, f2, rfl⟩
    have s2 := s1.fx f2 rfl
    have e2 := f2.at (a := 187) (k := 43) (by decide)
    refine ⟨rfl, fun c => ?_, fun _ => ⟨w2, f1.tr f2 (RS_sub rfl), _, rfl⟩⟩
    have c' := z_ne c
    refine (tellWay_ok w2 s2 (by omega) (by rw [e2]; omega)).to ?_
    rintro _ m3 ⟨w3, f3, v3, rfl⟩
    exact ⟨v3, rfl, w3, (f1.tr f2 (RS_sub rfl)).tr f3 (RS_sub rfl), _, rfl⟩
  have L : ∀ n : Nat, (∀ (m1 : Wm) (x2 x3 : Int32), WT m1 → Fx (RS [20, 22, 24, 26, 28, 34, 35, 38, 49]) m m1 → ST m1 → (x2.toInt = -1 ∨ (0 ≤ x2.toInt ∧ x2.toInt < (m1.1 187 43).toInt)) → 0 ≤ x3.toInt → x3.toInt ≤ 3000 → (3000 - x3.toInt) * 20 + 15 < (n : Int) → AW ad E0 μX12_quick (d + 178) (fun r m' => WT m' ∧ Fx (RS [20, 22, 24, 26, 28, 34, 35, 38, 49]) m m' ∧ ∃ v : Int32, r = some (.int v)) 22 [(0, .ref (ad 187)), (1, .int x1), (2, .int x2), (3, .int x3)] [] m1) ∧
      (∀ (m1 : Wm) (x3 x4 x5 : Int32), WT m1 → Fx (RS [20, 22, 24, 26, 28, 34, 35, 38, 49]) m m1 → ST m1 → 0 ≤ x3.toInt → x3.toInt < (m1.1 187 43).toInt → 0 ≤ x5.toInt → x5.toInt ≤ 8 → (3000 - x3.toInt) * 20 + 10 - x5.toInt < (n : Int) → AW ad E0 μX12_quick (d + 178) (fun r m' => WT m' ∧ Fx (RS [20, 22, 24, 26, 28, 34, 35, 38, 49]) m m' ∧ ∃ v : Int32, r = some (.int v)) 46 [(0, .ref (ad 187)), (1, .int x1), (3, .int x3), (4, .int x4), (5, .int x5)] [] m1) ∧
      (∀ (m1 : Wm) (x3 x4 : Int32), WT m1 → Fx (RS [20, 22, 24, 26, 28, 34, 35, 38, 49]) m m1 → ST m1 → 0 ≤ x3.toInt → x3.toInt < (m1.1 187 43).toInt → (3000 - x3.toInt) * 20 < (n : Int) → AW ad E0 μX12_quick (d + 178) (fun r m' => WT m' ∧ Fx (RS [20, 22, 24, 26, 28, 34, 35, 38, 49]) m m' ∧ ∃ v : Int32, r = some (.int v)) 83 [(0, .ref (ad 187)), (1, .int x1), (3, .int x3), (4, .int x4)] [] m1) := by
    intro n
    induction n with
    | zero =>
      refine ⟨fun m1 x2 x3 w1 f1 s1 h a b c => ?_, fun m1 x3 x4 x5 w1 f1 s1 a b c e g => ?_, fun m1 x3 x4 w1 f1 s1 a b c => ?_⟩
      all_goals have t43 := w1.at (a := 187) (k := 43) rfl
      all_goals exfalso
      all_goals omega
    | succ n ih =>
      refine ⟨fun m1 x2 x3 w1 f1 s1 h a b c => ?_, fun m1 x3 x4 x5 w1 f1 s1 a b c e g => ?_, fun m1 x3 x4 w1 f1 s1 a b c => ?_⟩
      all_goals have t43 := w1.at (a := 187) (k := 43) rfl
      · refine g_X12_quick_22 ⟨fun _ => L100 _ _ w1 f1 s1 h, fun q => ⟨fun _ => L100 _ _ w1 f1 s1 h, fun _ => ?_⟩⟩
        have q' := z_nle q
        refine (s_X12_load w1 (by omega) (by omega)).to ?_
        rintro _ m2 ⟨w2, f2, rfl⟩
        have e2 := f2.at (a := 187) (k := 43) (by decide)
        exact ⟨rfl, ih.2.1 m2 x3 1 0 w2 (f1.tr f2 (RS_sub rfl)) (s1.fx f2 rfl) a (by rw [e2]; omega) (by decide) (by decide) (by omega)⟩
      · have t11 := w1.at (a := 187) (k := 1) rfl
        refine g_X12_quick_46 ⟨fun _ => ih.2.2 m1 x3 x4 w1 f1 s1 a b (by omega), fun q => ⟨fun _ => ih.2.2 m1 x3 x4 w1 f1 s1 a b (by omega), fun _ => ?_⟩⟩
        have q' := z_nle q
        have t5 := ti_addc (x := x5) (y := 1) (c := 1) rfl (by omega)
        refine (s_X12_power w1 (by omega) (by omega)).to ?_
        rintro _ m2 ⟨w2, f2, v, rfl⟩
        have e2 := f2.at (a := 187) (k := 43) (by decide)
        have s2 := s1.fx f2 rfl
        have f2' := f1.tr f2 (RS_sub rfl)
        exact ⟨v, rfl, fun _ => ih.2.1 m2 x3 0 (x5 + 1) w2 f2' s2 a (by rw [e2]; omega) (by omega) (by omega) (by omega), fun _ => ih.2.1 m2 x3 1 (x5 + 1) w2 f2' s2 a (by rw [e2]; omega) (by omega) (by omega) (by omega)⟩
      · have t3 := ti_addc (x := x3) (y := 1) (c := 1) rfl (by omega)
        exact g_X12_quick_83 ⟨fun _ => ih.1 m1 (-1) (x3 + 1) w1 f1 s1 (Or.inl zn1) (by omega) (by omega) (by omega), fun _ => ih.1 m1 x3 (x3 + 1) w1 f1 s1 (Or.inr ⟨a, b⟩) (by omega) (by omega) (by omega)⟩
  refine v_X12_quick ((findStates_ok w0).to ?_)
  rintro _ m4 ⟨w4, f4, s4, g4, v4, rfl, -⟩
  have f4' := f0.tr f4 (RS_sub rfl)
  exact ⟨v4, rfl, fun _ => (L 100000).1 m4 (-1) 0 w4 f4' s4 (Or.inl zn1) (by decide) (by decide) (by rw [z0]; decide), fun _ => ⟨w4, f4', _, rfl⟩⟩
end TQ
end
section
/-! THE TABLE (model): each side is told once, for POWER is a number of the league alone -/
section TB
variable {ad : Nat → Nat} {m : Wm}
def ahB (p w : Nat → Int32) (a b : Nat) : Bool := if p a = p b then (if w a = w b then decide (a < b) else decide ((w b).toInt < (w a).toInt)) else decide ((p b).toInt < (p a).toInt)
theorem isAhead_ok {d a b : Nat} (w : WT m) (ha : a < 8) (hb : b < 8) : Ct ad μX12_isAhead (d + 169) [.ref (ad 187), .int (nI a), .int (nI b)] m (fun r m' => WT m' ∧ Fx (RS [22, 28]) m m' ∧ r = some (.int (if ahB (m.1 190) (pwM m) a b then 1 else 0))) := by
  refine v_X12_isAhead ?_
  rw [nI_clamp (by omega), nI_clamp (by omega)]
  refine ⟨nat_in ha (by decide), nat_in hb (by decide), fun e => ?_, fun e => ⟨nat_in ha (by decide), nat_in hb (by decide), fun c => ?_, fun c => ?_⟩⟩
  · refine (power_ok w ha).to ?_
    rintro _ m1 ⟨w1, f1, rfl⟩
    refine ⟨_, rfl, (power_ok w1 hb).to ?_⟩
    rintro _ m2 ⟨w2, f2, rfl⟩
    have e2 : pwM m1 b = pwM m b := by
      have e1 := fx_cell (a := 200) (ρ := 48) f1 (fun _ => rfl) rfl
      have e2 := fx_cell (a := 188) (ρ := 24) f1 (fun _ => rfl) rfl
      have e3 := fx_cell (a := 190) (ρ := 24) f1 (fun _ => rfl) rfl
      have e4 := fx_cell (a := 191) (ρ := 24) f1 (fun _ => rfl) rfl
      have e5 := f1.at (a := 187) (k := 27) (by decide)
      have e6 := f1.at (a := 187) (k := 0) (by decide)
      unfold pwM
      rw [e1, e2, e3, e4, e5, e6]
    rw [e2]
    have f2' := f1.tr f2 (RS_sub rfl)
    refine ⟨_, rfl, fun q => ⟨fun c => ?_, fun c => ?_⟩, fun q => ⟨fun c => ?_, fun c => ?_⟩⟩
    · refine ⟨w2, f2', ?_⟩
      unfold ahB
      rw [if_pos e, if_pos q, decide_eq_false (by have := (nI_leI (by omega) (by omega)).mp c; omega)]
      rfl
    · refine ⟨w2, f2', ?_⟩
      unfold ahB
      rw [if_pos e, if_pos q, decide_eq_true (by have : ¬ b ≤ a := fun q => c ((nI_leI (by omega) (by omega)).mpr q); omega)]
      rfl
    · refine ⟨w2, f2', ?_⟩
      have c' := z_le c
      unfold ahB
      rw [if_pos e, if_neg q, decide_eq_false (by omega)]
      rfl
    · refine ⟨w2, f2', ?_⟩
      have c' := z_nle c
      unfold ahB
      rw [if_pos e, if_neg q, decide_eq_true (by omega)]
      rfl
  · refine ⟨w, Fx.rf, ?_⟩
    have c' := z_le c
    unfold ahB
    rw [if_neg e, decide_eq_false (by omega)]
    rfl
  · refine ⟨w, Fx.rf, ?_⟩
    have c' := z_nle c
    unfold ahB
    rw [if_neg e, decide_eq_true (by omega)]
    rfl
def cnB (f : Nat → Bool) : Nat → Nat
  | 0 => 0
  | n + 1 => cnB f n + (if f n then 1 else 0)
theorem cnB_le {f : Nat → Bool} : ∀ n, cnB f n ≤ n := by
  intro n
  induction n with
  | zero => exact Nat.le_refl _
  | succ n ih =>
    show cnB f n + _ ≤ n + 1
    split <;> omega
theorem cnB_mono {f : Nat → Bool} {a : Nat} : ∀ n, a ≤ n → cnB f a ≤ cnB f n := by
  intro n
  induction n with
  | zero => intro h; obtain rfl : a = 0 := by omega
            exact Nat.le_refl _
  | succ n ih =>
    intro h
    by_cases e : a = n + 1
    · rw [e]; exact Nat.le_refl _
    · have := ih (by omega)
      show _ ≤ cnB f n + _
      omega
theorem cnB_add {c : Nat → Nat} {p : Nat} : ∀ n, cnB (fun t => decide (c t < p)) n + cnB (fun t => decide (c t = p)) n = cnB (fun t => decide (c t < p + 1)) n := by
  intro n
  induction n with
  | zero => rfl
  | succ n ih =>
    show cnB (fun t => decide (c t < p)) n + (if decide (c n < p) = true then 1 else 0) + (cnB (fun t => decide (c t = p)) n + (if decide (c n = p) = true then 1 else 0)) = cnB (fun t => decide (c t < p + 1)) n + (if decide (c n < p + 1) = true then 1 else 0)
    simp only [decide_eq_true_eq]
    split <;> split <;> split <;> omega
theorem cnB_0 {c : Nat → Nat} : ∀ n, cnB (fun t => decide (c t < 0)) n = 0 := by
  intro n
  induction n with
  | zero => rfl
  | succ n ih =>
    show cnB (fun t => decide (c t < 0)) n + (if decide (c n < 0) = true then 1 else 0) = 0
    rw [ih, decide_eq_false (by omega)]
    rfl
def tbR (c : Nat → Nat) (n p s : Nat) : Nat := cnB (fun t => decide (c t < p)) n + cnB (fun t => decide (c t = p)) s
theorem tbR_le {c : Nat → Nat} {n p s : Nat} (h : s ≤ n) : tbR c n p s ≤ n := by
  have h1 := cnB_add (c := c) (p := p) n
  have h2 := cnB_mono (f := fun t => decide (c t = p)) n h
  have h3 := cnB_le (f := fun t => decide (c t < p + 1)) n
  unfold tbR
  omega
theorem tbR_nx {c : Nat → Nat} {n p : Nat} : tbR c n p n = tbR c n (p + 1) 0 := cnB_add n
def tbQ (m : Wm) (r : Option Value) (m' : Wm) : Prop := WT m' ∧ Fx (RS [20, 22, 26, 28]) m m' ∧ ∃ v : Int32, r = some (.int v) ∧ v.toInt = (m.1 187 1).toInt
theorem s_X12_table {d : Nat} (w : WT m) : Ct ad μX12_table (d + 170) [.ref (ad 187)] m (fun r m' => WT m' ∧ Fx (RS [20, 22, 26, 28]) m m' ∧ ∃ v : Int32, r = some (.int v) ∧ v.toInt = (m.1 187 1).toInt) := by
  obtain ⟨n, en, -, n1, n2, n3⟩ := w.nat (a := 187) (k := 1) rfl (by decide)
  have hn8 : n ≤ 8 := by omega
  let c : Nat → Nat := fun s => cnB (fun o => (!decide (o = s)) && ahB (m.1 190) (pwM m) o s) n
  have cd : ∀ s, c s = cnB (fun o => (!decide (o = s)) && ahB (m.1 190) (pwM m) o s) n := fun _ => rfl
  have sid : ∀ m1, Fx (RS [20, 22, 26, 28]) m m1 → m1.1 187 1 = nI n := fun m1 f1 => (f1.at (by decide)).trans en
  have nle : ∀ m1, Fx (RS [20, 22, 26, 28]) m m1 → ∀ o, o < n → ¬ m1.1 187 1 ≤ nI o := fun m1 f1 o ho q => by
    rw [sid m1 f1] at q
    have := (nI_leI (by omega) (by omega)).mp q
    omega
  have pww : ∀ m1, Fx (RS [20, 22, 26, 28]) m m1 → pwM m1 = pwM m ∧ m1.1 190 = m.1 190 := by
    intro m1 f1
    have e1 := fx_cell (a := 200) (ρ := 48) f1 (fun _ => rfl) rfl
    have e2 := fx_cell (a := 188) (ρ := 24) f1 (fun _ => rfl) rfl
    have e3 := fx_cell (a := 190) (ρ := 24) f1 (fun _ => rfl) rfl
    have e4 := fx_cell (a := 191) (ρ := 24) f1 (fun _ => rfl) rfl
    have e5 := f1.at (a := 187) (k := 27) (by decide)
    have e6 := f1.at (a := 187) (k := 0) (by decide)
    refine ⟨?_, e3⟩
    funext s
    unfold pwM
    rw [e1, e2, e3, e4, e5, e6]
  have L35 : ∀ (p s : Nat), p < 8 → s < n → (∀ m2, WT m2 → Fx (RS [20, 22, 26, 28]) m m2 → (m2.1 187 16).toInt = (tbR c n p (s + 1) : Int) → AW ad E0 μX12_table (d + 170) (tbQ m) 22 [(0, .ref (ad 187)), (1, .int (nI p)), (2, .int (nI (s + 1)))] [] m2) →
      ∀ j o m1, o + j = n → WT m1 → Fx (RS [20, 22, 26, 28]) m m1 → (m1.1 187 16).toInt = (tbR c n p s : Int) → AW ad E0 μX12_table (d + 170) (tbQ m) 35 [(0, .ref (ad 187)), (1, .int (nI p)), (2, .int (nI s)), (3, .int (nI (cnB (fun o => (!decide (o = s)) && ahB (m.1 190) (pwM m) o s) o))), (4, .int (nI o))] [] m1 := by
    intro p s hp hs K j
    induction j with
    | zero =>
      intro o m1 ho w1 f1 h16
      obtain rfl : o = n := by omega
      have hc := cnB_le (f := fun o => (!decide (o = s)) && ahB (m.1 190) (pwM m) o s) o
      have hR := tbR_le (c := c) (n := o) (p := p) (s := s) (by omega)
      refine g_X12_table_35 ⟨fun _ => ⟨fun e => ?_, fun e => (s_X12_tell w1 (by omega)).to ?_⟩, fun q => absurd (by rw [sid m1 f1]; exact (nI_leI (by omega) (by omega)).mpr (Nat.le_refl _)) q⟩
      · rw [nI_1]
        refine K m1 w1 f1 ?_
        rw [h16]
        have : c s ≠ p := fun q => e (by rw [← cd, q])
        show ((tbR c o p s : Nat) : Int) = ((cnB _ o + (cnB (fun t => decide (c t = p)) s + (if decide (c s = p) = true then 1 else 0)) : Nat) : Int)
        rw [decide_eq_false this]
        rfl
      · rintro _ m2 ⟨w2, f2, rfl, p2⟩
        refine ⟨rfl, ?_⟩
        rw [nI_1]
        refine K m2 w2 (f1.tr f2 (RS_sub rfl)) ?_
        rw [p2, h16]
        have : c s = p := by
          have h1 := congrArg Int32.toInt e
          rw [nI_toInt (by omega), nI_toInt (by omega)] at h1
          rw [cd]
          omega
        show ((tbR c o p s : Nat) : Int) + 1 = ((cnB _ o + (cnB (fun t => decide (c t = p)) s + (if decide (c s = p) = true then 1 else 0)) : Nat) : Int)
        rw [decide_eq_true this]
        show ((cnB _ o + cnB _ s : Nat) : Int) + 1 = ((cnB _ o + (cnB _ s + 1) : Nat) : Int)
        omega
    | succ j ih =>
      intro o m1 ho w1 f1 h16
      have st : ∀ b : Bool, ((!decide (o = s)) && ahB (m.1 190) (pwM m) o s) = b → cnB (fun o => (!decide (o = s)) && ahB (m.1 190) (pwM m) o s) (o + 1) = cnB (fun o => (!decide (o = s)) && ahB (m.1 190) (pwM m) o s) o + (if b then 1 else 0) := by
        intro b hb
        show _ + (if ((!decide (o = s)) && ahB (m.1 190) (pwM m) o s) = true then 1 else 0) = _
        rw [hb]
      refine g_X12_table_35 ⟨fun q => absurd q (nle m1 f1 _ (by omega)), fun _ => ⟨fun e => ?_, fun e => ?_⟩⟩
      · have hos : o = s := by
          have h1 := congrArg Int32.toInt e
          rw [nI_toInt (by omega), nI_toInt (by omega)] at h1
          omega
        have := ih (o + 1) m1 (by omega) w1 f1 h16
        rw [st false (by rw [decide_eq_true hos]; rfl)] at this
        rw [nI_1, Int32.add_zero]
        exact this
      · have hos : o ≠ s := fun q => e (by rw [q])
        refine (isAhead_ok w1 (by omega) (by omega)).to ?_
        rintro _ m2 ⟨w2, f2, rfl⟩
        have f2' := f1.tr f2 (RS_sub (l1 := [22, 28]) rfl)
        have h16' : (m2.1 187 16).toInt = (tbR c n p s : Int) := by rw [f2.at (by decide)]; exact h16
        have hh := ih (o + 1) m2 (by omega) w2 f2' h16'
        obtain ⟨e1, e2⟩ := pww m1 f1
        rw [e1, e2]
        refine ⟨_, rfl, fun q => ?_, fun q => ?_⟩
        · rw [st false (by
            rw [decide_eq_false hos]
            cases hb : ahB (m.1 190) (pwM m) o s
            · rfl
            · rw [hb] at q; exact absurd q (by decide))] at hh
          rw [nI_1, Int32.add_zero]
          exact hh
        · rw [st true (by
            rw [decide_eq_false hos]
            cases hb : ahB (m.1 190) (pwM m) o s
            · rw [hb] at q; exact absurd rfl q
            · rfl)] at hh
          rw [nI_1, nI_1]
          exact hh
  have L22 : ∀ (p : Nat), p < n → (∀ m2, WT m2 → Fx (RS [20, 22, 26, 28]) m m2 → (m2.1 187 16).toInt = (tbR c n (p + 1) 0 : Int) → AW ad E0 μX12_table (d + 170) (tbQ m) 12 [(0, .ref (ad 187)), (1, .int (nI (p + 1)))] [] m2) →
      ∀ j s m1, s + j = n → WT m1 → Fx (RS [20, 22, 26, 28]) m m1 → (m1.1 187 16).toInt = (tbR c n p s : Int) → AW ad E0 μX12_table (d + 170) (tbQ m) 22 [(0, .ref (ad 187)), (1, .int (nI p)), (2, .int (nI s))] [] m1 := by
    intro p hp K j
    induction j with
    | zero =>
      intro s m1 hs w1 f1 h16
      obtain rfl : s = n := by omega
      refine g_X12_table_22 ⟨fun _ => ?_, fun q => absurd (by rw [sid m1 f1]; exact (nI_leI (by omega) (by omega)).mpr (Nat.le_refl _)) q⟩
      rw [nI_1]
      exact K m1 w1 f1 (by rw [h16, tbR_nx])
    | succ j ih =>
      intro s m1 hs w1 f1 h16
      refine g_X12_table_22 ⟨fun q => absurd q (nle m1 f1 _ (by omega)), fun _ => ?_⟩
      exact L35 p s (by omega) (by omega) (fun m2 w2 f2 h2 => ih (s + 1) m2 (by omega) w2 f2 h2) n 0 m1 (by omega) w1 f1 h16
  have L12 : ∀ j p m1, p + j = n → WT m1 → Fx (RS [20, 22, 26, 28]) m m1 → (m1.1 187 16).toInt = (tbR c n p 0 : Int) → AW ad E0 μX12_table (d + 170) (tbQ m) 12 [(0, .ref (ad 187)), (1, .int (nI p))] [] m1 := by
    intro j
    induction j with
    | zero =>
      intro p m1 hp w1 f1 h16
      obtain rfl : p = n := by omega
      exact g_X12_table_12 ⟨fun _ => ⟨w1, f1, _, rfl, by rw [sid m1 f1, en]⟩, fun q => absurd (by rw [sid m1 f1]; exact (nI_leI (by omega) (by omega)).mpr (Nat.le_refl _)) q⟩
    | succ j ih =>
      intro p m1 hp w1 f1 h16
      refine g_X12_table_12 ⟨fun _ => ⟨w1, f1, _, rfl, by rw [sid m1 f1, en]⟩, fun _ => ?_⟩
      exact L22 p (by omega) (fun m2 w2 f2 h2 => ih (p + 1) m2 (by omega) w2 f2 h2) n 0 m1 (by omega) w1 f1 h16
  refine v_X12_table (d := d + 169) ?_
  have := L12 n 0 (uI (uI m 187 17 0) 187 16 0) (by omega) ((w.n rfl).t rfl (by decide) (by decide)) (((Fx.rf (S := RS [20, 22, 26, 28]) (m := m)).i (a := 187) (k := 17) rfl).i (a := 187) (k := 16) rfl) (by rw [show tbR c n 0 0 = 0 from cnB_0 n]; rfl)
  exact this
end TB
end
section
/-! THE PLAN (model): rounds; what is taken over -/
section PLN
variable {ad : Nat → Nat} {d : Nat} {a na sz tp e : Nat} {tx : Nat → Int32}
theorem rd_ok (A : PA a na sz tp e) {n : Nat} (hn : n ≤ 8) (ha : a ≠ 199) {m0 : Wm} {Q : Option Value → Wm → Prop} (hm0 : m0.1 187 1 = nI n) :
    ∀ (k r g : Nat) (np : Nat → Int32) (p : Nat) (w : Int32) (m : Wm), 13 ≤ k + r → r ≤ 12 → (w = -1 → 4 * g ≤ p ∧ (r = 0 ∨ 1 ≤ g)) → g ≤ 40 → PS a sz tp e tx p w m → m.1 199 = np → Fx (RS [22, 27]) m0 m → WT m →
    (∀ m' r' g' np' p' w', rdF tx e n k r g np (p, w) = (r', g', np', (p', w')) → PS a sz tp e tx p' w' m' → m'.1 199 = np' → Fx (RS [22, 27]) m0 m' → WT m' → (w' = -1 → r' ≤ 12 ∧ (r' = 0 ∨ 1 ≤ g')) → g' ≤ 40 → r' ≤ 13 →
      AW ad E0 μX12_plan (d + 4 + 1) Q 238 [(0, .ref (ad 187)), (1, .int (nI r')), (2, .int (nI g'))] [] m') →
    AW ad E0 μX12_plan (d + 4 + 1) Q 41 [(0, .ref (ad 187)), (1, .int (nI r)), (2, .int (nI g)), (3, .int 1)] [] m := by
  intro k
  induction k with
  | zero => intros; omega
  | succ k ih =>
    intro r g np p w m hk hr hg hg4 h hnp f wt K
    refine g_X12_plan_41 ⟨fun c => absurd c (by decide), fun _ => (fine_ok h).to ?_⟩
    rintro _ m' ⟨eq, rfl⟩
    obtain rfl := eq.symm
    by_cases hw : w = -1
    · subst hw
      have hg2 := hg rfl
      refine ⟨1, by rw [if_pos rfl], fun c => absurd c (by decide), fun _ => ?_⟩
      have ex : rdF tx e n (k + 1) r g np (p, -1) = (if passF tx e 59 (gmF tx e n r 81 0 g np (if r = 12 then fltF (nI p) (p, -1) else (p, -1))).2.2 = true then rdF tx e n k (r + 1) (gmF tx e n r 81 0 g np (if r = 12 then fltF (nI p) (p, -1) else (p, -1))).1 (gmF tx e n r 81 0 g np (if r = 12 then fltF (nI p) (p, -1) else (p, -1))).2.1 ((gmF tx e n r 81 0 g np (if r = 12 then fltF (nI p) (p, -1) else (p, -1))).2.2.1 + 1, (gmF tx e n r 81 0 g np (if r = 12 then fltF (nI p) (p, -1) else (p, -1))).2.2.2) else (r + 1, (gmF tx e n r 81 0 g np (if r = 12 then fltF (nI p) (p, -1) else (p, -1))).1, (gmF tx e n r 81 0 g np (if r = 12 then fltF (nI p) (p, -1) else (p, -1))).2.1, (gmF tx e n r 81 0 g np (if r = 12 then fltF (nI p) (p, -1) else (p, -1))).2.2)) := if_pos rfl
      have go : ∀ (w1 : Int32) (m1 : Wm), (if r = 12 then fltF (nI p) (p, -1) else (p, -1)) = (p, w1) → (w1 = -1 → r < 12) → PS a sz tp e tx p w1 m1 → m1.1 199 = np → Fx (RS [22, 27]) m0 m1 → WT m1 → AW ad E0 μX12_plan (d + 4 + 1) Q 72 [(0, .ref (ad 187)), (1, .int (nI r)), (2, .int (nI g)), (4, .int 0), (5, .int 1)] [] m1 := by
        intro w1 m1 hs1 hr1 h1 c1 f1 wt1
        rw [hs1] at ex
        have hp80 := h1.small A
        have hpe : p ≤ e := h1.2.2.2.2.2.1
        have e80 : e ≤ 80 := by have := A.2.2.2.1; have := A.2.2.2.2.1; omega
        refine gm_ok A hn (by omega) ha hm0 81 0 g np p w1 m1 (by omega) (fun _ => hg2.1) hg4 h1 c1 f1 wt1 ?_
        intro m2 g' np' p' w' hG h2 c2 f2 wt2 hw' hg4'
        rw [hG] at ex
        refine (passes_ok A h2 (by decide)).to ?_
        rintro _ m3 ⟨rfl, h3, f3⟩
        have c3 : m3.1 199 = np' := (fx_cell (ρ := 27) f3 (fun _ => rfl) rfl).trans c2
        have F3 : Fx (RS [22, 27]) m0 m3 := f2.tr f3 (RS_sub rfl)
        have wt3 := wt2.fx f3
        by_cases h59 : passF tx e 59 (p', w') = true
        · have hwm : w' = -1 := (of_decide_eq_true h59).1
          have hw2 := hw' hwm
          rw [if_pos h59] at h3 ⊢
          have ex2 : rdF tx e n (k + 1) r g np (p, -1) = rdF tx e n k (r + 1) g' np' (p' + 1, w') := ex.trans (if_pos h59)
          have hr12 : r < 12 := by
            by_cases h12 : r = 12
            · exfalso
              have hw1 : w1 ≠ -1 := fun q => by have := hr1 q; omega
              have : gmF tx e n r 81 0 g np (p, w1) = (g, np, (p, w1)) := if_neg hw1
              rw [this] at hG
              have := congrArg (fun z => z.2.2.2) hG
              exact hw1 (this.trans hwm)
            · omega
          refine ⟨1, rfl, ?_⟩
          rw [nI_1]
          refine ih (r + 1) g' np' (p' + 1) w' m3 (by omega) (by omega) (fun _ => ⟨by omega, Or.inr hw2.2⟩) hg4' h3 c3 F3 wt3 ?_
          intro m4 r4 g4 np4 p4 w4 hq
          exact K m4 r4 g4 np4 p4 w4 (ex2.trans hq)
        · rw [if_neg h59] at h3 ⊢
          refine ⟨0, rfl, ?_⟩
          rw [nI_1]
          refine g_X12_plan_41 ⟨fun _ => ?_, fun c => absurd rfl c⟩
          refine K m3 (r + 1) g' np' p' w' (ex.trans (if_neg h59)) h3 c3 F3 wt3 (fun q => ⟨?_, Or.inr (hw' q).2⟩) hg4' (by omega)
          by_cases h12 : r = 12
          · exfalso
            have hw1 : w1 ≠ -1 := fun q => by have := hr1 q; omega
            have : gmF tx e n r 81 0 g np (p, w1) = (g, np, (p, w1)) := if_neg hw1
            rw [this] at hG
            have := congrArg (fun z => z.2.2.2) hG
            exact hw1 (this.trans q)
          · omega
      have t12 : (nI r = 12) ↔ r = 12 := by
        refine ⟨fun q => ?_, fun q => by rw [q]; rfl⟩
        have h1 := congrArg Int32.toInt q
        rw [nI_toInt (by omega)] at h1
        have : (12 : Int32).toInt = 12 := rfl
        omega
      refine ⟨fun c => ?_, fun c => ?_⟩
      · have h12 : r ≠ 12 := fun q => c (t12.mpr q)
        exact go (-1) m (if_neg h12) (fun _ => by omega) h hnp f wt
      · have h12 := t12.mp c
        rw [h.2.2.2.1]
        refine (fault_ok A h).to ?_
        rintro _ m2 ⟨rfl, h2, f2⟩
        have e2 : (fltF (nI p) (p, (-1 : Int32))).2 = nI p := rfl
        rw [e2] at h2
        refine ⟨rfl, go (nI p) m2 (if_pos h12) (fun q => ?_) h2 ((fx_cell (ρ := 27) f2 (fun _ => rfl) rfl).trans hnp) (f.tr f2 (RS_sub rfl)) (wt.fx f2)⟩
        exact absurd q.symm (m1_ne p (by have := h.small A; omega))
    · have ex : rdF tx e n (k + 1) r g np (p, w) = (r, g, np, (p, w)) := if_neg hw
      rw [ex] at K
      exact ⟨0, by rw [if_neg hw], fun _ => K m r g np p w rfl h hnp f wt (fun q => absurd q hw) hg4 (by omega), fun c => absurd rfl c⟩
/-- the bytes read: at most LONG -/
def minT (n t : Nat) : Nat := if n < t then n else t
theorem pa_text {n t : Nat} (hn : n ≤ 80) (ht : t ≤ 80) : PA 195 80 n t (minT n t) := by
  unfold minT
  by_cases h : n < t
  · rw [if_pos h]; exact ⟨rfl, hn, ht, by omega, by decide, by decide, by omega, by omega, Or.inl rfl⟩
  · rw [if_neg h]; exact ⟨rfl, hn, ht, by omega, by decide, by decide, by omega, by omega, Or.inr rfl⟩
theorem s_X12_plan {m : Wm} (w : WT m) : Ct ad μX12_plan (d + 5) [.ref (ad 187)] m (fun r m' => WT m' ∧ Fx (RS [20, 21, 22, 25, 27, 52, 55]) m m' ∧ (∃ v : Int32, r = some (.int v)) ∧ (m'.1 187 14).toInt = 0 ∧ ((m'.1 187 10 = m.1 187 10 ∧ m'.1 187 11 = m.1 187 11) ∨ (m'.1 187 11).toInt = 0 ∨ 1 ≤ (m'.1 187 10).toInt)) := by
  obtain ⟨n, en, -, n1, n2, n3⟩ := w.nat (a := 187) (k := 1) rfl (by decide)
  obtain ⟨ty, ety, -, y1, y2, y3⟩ := w.nat (a := 187) (k := 14) rfl (by decide)
  have w0 : WT (uI m 187 17 0) := w.n rfl
  have A := pa_text (n := ty) (t := 76) (by omega) (by decide)
  have he80 : minT ty 76 ≤ 80 := by unfold minT; split <;> omega
  refine v_X12_plan (d := d + 4) ((begin_ok (na := 80) rfl).to ?_)
  rintro _ m1 ⟨rfl, e1⟩
  have e1' : m1 = bgM (uI m 187 17 0) 195 (nI ty) (nI 76) := by rw [e1]; show _ = bgM _ _ (nI ty) _; rw [← ety]; rfl
  subst e1'
  clear e1
  have f1 : Fx (RS [22]) (uI m 187 17 0) (bgM (uI m 187 17 0) 195 (nI ty) (nI 76)) := bg_fx
  have P1 : PS 195 ty 76 (minT ty 76) ((uI m 187 17 0).1 195) 0 (-1) (bgM (uI m 187 17 0) 195 (nI ty) (nI 76)) := bg_ps he80 (by decide)
  have w1 := w0.fx f1
  generalize bgM (uI m 187 17 0) 195 (nI ty) (nI 76) = mb at f1 P1 w1 ⊢
  have w2 : WT (uI mb 187 14 0) := w1.t rfl (by decide) (by decide)
  have P2 : PS 195 ty 76 (minT ty 76) ((uI m 187 17 0).1 195) 0 (-1) (uI mb 187 14 0) := by
    obtain ⟨b1, b2, b3, b4, b5, b6, b7⟩ := P1
    exact ⟨b1, b2, b3, b4, b5, b6, fun k hk => b7 k hk⟩
  have F2 : Fx (RS [20, 21, 22, 25, 27, 52, 55]) m (uI mb 187 14 0) := (((Fx.rf (S := RS [20, 21, 22, 25, 27, 52, 55]) (m := m)).i (a := 187) (k := 17) (v := 0) rfl).tr f1 (RS_sub rfl)).i rfl
  have z14 : ((uI mb 187 14 0).1 187 14).toInt = 0 := rfl
  have h10 : (uI mb 187 14 0).1 187 10 = m.1 187 10 := f1.at (a := 187) (k := 10) (by decide)
  have h11 : (uI mb 187 14 0).1 187 11 = m.1 187 11 := f1.at (a := 187) (k := 11) (by decide)
  have h01 : (uI mb 187 14 0).1 187 1 = nI n := (f1.at (a := 187) (k := 1) (by decide)).trans en
  have h19 : (uI mb 187 14 0).1 187 19 = nI ty := P2.2.1
  generalize uI mb 187 14 0 = mc at w2 P2 F2 z14 h10 h11 h01 h19 ⊢
  refine ⟨rfl, ?_⟩
  -- the end
  have fin : ∀ (m' : Wm) (r' g' : Nat) (p' : Nat) (w' : Int32), PS 195 ty 76 (minT ty 76) ((uI m 187 17 0).1 195) p' w' m' → Fx (RS [22, 27]) mc m' → WT m' → (w' = -1 → r' ≤ 12 ∧ (r' = 0 ∨ 1 ≤ g')) → g' ≤ 40 → r' ≤ 13 →
      AW ad E0 μX12_plan (d + 4 + 1) (fun r m' => WT m' ∧ Fx (RS [20, 21, 22, 25, 27, 52, 55]) m m' ∧ (∃ v : Int32, r = some (.int v)) ∧ (m'.1 187 14).toInt = 0 ∧ ((m'.1 187 10 = m.1 187 10 ∧ m'.1 187 11 = m.1 187 11) ∨ (m'.1 187 11).toInt = 0 ∨ 1 ≤ (m'.1 187 10).toInt)) 238 [(0, .ref (ad 187)), (1, .int (nI r')), (2, .int (nI g'))] [] m' := by
    intro m' r' g' p' w' h f wt hw hg hr
    have cp : r' ≤ 12 → (r' = 0 ∨ 1 ≤ g') → ∀ (j x4 : Nat) (m3 : Wm), x4 + j = 4 * g' → WT m3 → Fx (RS [20, 21, 22, 25, 27, 52, 55]) m m3 → (m3.1 187 14).toInt = 0 → AW ad E0 μX12_plan (d + 4 + 1) (fun r m' => WT m' ∧ Fx (RS [20, 21, 22, 25, 27, 52, 55]) m m' ∧ (∃ v : Int32, r = some (.int v)) ∧ (m'.1 187 14).toInt = 0 ∧ ((m'.1 187 10 = m.1 187 10 ∧ m'.1 187 11 = m.1 187 11) ∨ (m'.1 187 11).toInt = 0 ∨ 1 ≤ (m'.1 187 10).toInt)) 274 [(0, .ref (ad 187)), (1, .int (nI r')), (2, .int (nI g')), (4, .int (nI x4))] [] m3 := by
      intro hr12 hrg j
      have l4 : (4 : Int32) * nI g' = nI (4 * g') := l_mul 4 4 rfl g'
      have tr' : (nI r').toInt = (r' : Int) := nI_toInt (by omega)
      have tg' : (nI g').toInt = (g' : Int) := nI_toInt (by omega)
      induction j with
      | zero =>
        intro x4 m3 hx wt3 f3 h14
        refine g_X12_plan_274 ?_
        rw [l4]
        refine ⟨fun _ => ⟨((wt3.t rfl (by omega) (by omega)).t rfl (by omega) (by omega)).n rfl, ((f3.i rfl).i rfl).i rfl, ⟨_, rfl⟩, h14, ?_⟩, fun c => absurd ((nI_leI (by omega) (by omega)).mpr (by omega)) c⟩
        rcases hrg with q | q
        · exact Or.inr (Or.inl (by show (nI r').toInt = 0; omega))
        · exact Or.inr (Or.inr (by show 1 ≤ (nI g').toInt; omega))
      | succ j ih =>
        intro x4 m3 hx wt3 f3 h14
        refine g_X12_plan_274 ?_
        rw [l4, nI_1, nI_clamp (by omega)]
        refine ⟨fun c => absurd ((nI_leI (by omega) (by omega)).mp c) (by omega), fun _ => ⟨nat_in (by omega) (by decide), nat_in (by omega) (by decide), ?_⟩⟩
        refine ih (x4 + 1) _ (by omega) ?_ (f3.i rfl) h14
        by_cases hx4 : x4 % 4 < 2
        · have e9 : TY 199 x4 = some (0, 7) := if_pos hx4
          have e4 : TY 194 x4 = some (0, 7) := if_pos hx4
          have := wt3.at e9
          exact wt3.t e4 this.1 this.2
        · exact wt3.n (if_neg hx4)
    have e257 : ∀ (m3 : Wm) (w3 : Int32), PS 195 ty 76 (minT ty 76) ((uI m 187 17 0).1 195) p' w3 m3 → Fx (RS [22, 27]) mc m3 → WT m3 → (w3 = -1 → w' = -1) → AW ad E0 μX12_plan (d + 4 + 1) (fun r m' => WT m' ∧ Fx (RS [20, 21, 22, 25, 27, 52, 55]) m m' ∧ (∃ v : Int32, r = some (.int v)) ∧ (m'.1 187 14).toInt = 0 ∧ ((m'.1 187 10 = m.1 187 10 ∧ m'.1 187 11 = m.1 187 11) ∨ (m'.1 187 11).toInt = 0 ∨ 1 ≤ (m'.1 187 10).toInt)) 257 [(0, .ref (ad 187)), (1, .int (nI r')), (2, .int (nI g'))] [] m3 := by
      intro m3 w3 h3 f3 wt3 hw3
      have F3 := F2.tr f3 (RS_sub rfl)
      have e14 : (m3.1 187 14).toInt = 0 := by rw [f3.at (a := 187) (k := 14) (by decide)]; exact z14
      refine g_X12_plan_257 ((fine_ok h3).to ?_)
      rintro _ m' ⟨eq, rfl⟩
      obtain rfl := eq.symm
      by_cases hq : w3 = -1
      · refine ⟨1, by rw [if_pos hq], fun _ => ?_, fun c => absurd c (by decide)⟩
        have := hw (hw3 hq)
        exact cp this.1 this.2 (4 * g') 0 m3 (by omega) wt3 F3 e14
      · exact ⟨0, by rw [if_neg hq], fun c => absurd rfl c, fun _ => ⟨wt3, F3, ⟨_, rfl⟩, e14, Or.inl ⟨(f3.at (a := 187) (k := 10) (by decide)).trans h10, (f3.at (a := 187) (k := 11) (by decide)).trans h11⟩⟩⟩
    refine g_X12_plan_238 ⟨fun _ => e257 m' w' h f wt (fun q => q), fun _ => (fault_ok A h).to ?_⟩
    rintro _ m3 ⟨rfl, h3, f3⟩
    refine ⟨rfl, e257 m3 _ h3 (f.tr f3 (RS_sub rfl)) (wt.fx f3) (fun q => ?_)⟩
    unfold fltF at q
    by_cases hq : w' = -1
    · exact hq
    · rw [if_neg hq] at q
      exact q
  refine ⟨fun _ => g_X12_plan_41 ⟨fun _ => fin mc 0 0 0 (-1) P2 Fx.rf w2 (fun _ => ⟨by decide, Or.inl rfl⟩) (by decide) (by decide), fun c => absurd rfl c⟩, fun _ => ?_⟩
  exact rd_ok A (n := n) (by omega) (by decide) (m0 := mc) h01 13 0 0 (mc.1 199) 0 (-1) mc (by decide) (by decide) (fun _ => ⟨by decide, Or.inl rfl⟩) (by decide) P2 rfl Fx.rf w2 (fun m' r' g' np' p' w' _ h _ f wt hw hg hr => fin m' r' g' p' w' h f wt hw hg hr)
end PLN
end
section
/-! THE RULE, THE LEAGUE (model) -/
section RUM
variable {ad : Nat → Nat} {d : Nat} {m : Wm}
def tqQ (S : List Nat) (m : Wm) (r : Option Value) (m' : Wm) : Prop := WT m' ∧ Fx (RS S) m m' ∧ (∃ v : Int32, r = some (.int v)) ∧ (m'.1 187 14).toInt = 0
theorem s_X12_rule (w : WT m) : Ct ad μX12_rule (d + 168) [.ref (ad 187)] m (tqQ [20, 21, 22, 48, 28] m) := by
  obtain ⟨ty, ety, -, y1, y2, y3⟩ := w.nat (a := 187) (k := 14) rfl (by decide)
  have w0 : WT (uI m 187 17 0) := w.n rfl
  have A := pa_text (n := ty) (t := 40) (by omega) (by decide)
  have he40 : minT ty 40 ≤ 40 := by unfold minT; split <;> omega
  refine v_X12_rule (d := d + 167) ((begin_ok (na := 80) rfl).to ?_)
  rintro _ m1 ⟨rfl, e1⟩
  have ety' : (uI m 187 17 0).1 187 14 = nI ty := ety
  rw [ety'] at e1 ⊢
  have e1' : m1 = bgM (uI m 187 17 0) 195 (nI ty) (nI 40) := e1
  subst e1'
  clear e1
  have f1 : Fx (RS [22]) (uI m 187 17 0) (bgM (uI m 187 17 0) 195 (nI ty) (nI 40)) := bg_fx
  have P1 : PS 195 ty 40 (minT ty 40) ((uI m 187 17 0).1 195) 0 (-1) (bgM (uI m 187 17 0) 195 (nI ty) (nI 40)) := bg_ps (by omega) (by decide)
  have w1 := w0.fx f1
  generalize bgM (uI m 187 17 0) 195 (nI ty) (nI 40) = mb at f1 P1 w1 ⊢
  have w2 : WT (uI (uI mb 187 14 0) 187 28 (-1)) := (w1.t rfl (by decide) (by decide)).t rfl (by decide) (by decide)
  have P2 : PS 195 ty 40 (minT ty 40) ((uI m 187 17 0).1 195) 0 (-1) (uI (uI mb 187 14 0) 187 28 (-1)) := by
    obtain ⟨b1, b2, b3, b4, b5, b6, b7⟩ := P1
    exact ⟨b1, b2, b3, b4, b5, b6, fun k hk => b7 k hk⟩
  have F2 : Fx (RS [20, 21, 22, 48, 28]) m (uI (uI mb 187 14 0) 187 28 (-1)) := ((((Fx.rf (S := RS [20, 21, 22, 48, 28]) (m := m)).i (a := 187) (k := 17) (v := 0) rfl).tr f1 (RS_sub rfl)).i rfl).i rfl
  have z14 : ((uI (uI mb 187 14 0) 187 28 (-1)).1 187 14).toInt = 0 := rfl
  have En : EN ad (fun _ => 0) (uI (uI mb 187 14 0) 187 28 (-1)) := Or.inl ⟨rfl, fun _ => rfl⟩
  generalize uI (uI mb 187 14 0) 187 28 (-1) = mc at w2 P2 F2 z14 En ⊢
  have cp : ty ≤ 40 → ∀ (j x2 : Nat) (m3 : Wm), x2 + j = ty → WT m3 → Fx (RS [20, 21, 22, 48, 28]) m m3 → (m3.1 187 14).toInt = 0 → AW ad E0 μX12_rule (d + 167 + 1) (tqQ [20, 21, 22, 48, 28] m) 73 [(0, .ref (ad 187)), (1, .int (nI ty)), (2, .int (nI x2))] [] m3 := by
    intro h40 j
    have tt : (nI ty).toInt = (ty : Int) := nI_toInt (by omega)
    induction j with
    | zero =>
      intro x2 m3 hx wt3 f3 h14
      exact g_X12_rule_73 ⟨fun _ => ⟨wt3.t rfl (by omega) (by omega), f3.i rfl, ⟨_, rfl⟩, h14⟩, fun c => absurd ((nI_leI (by omega) (by omega)).mpr (by omega)) c⟩
    | succ j ih =>
      intro x2 m3 hx wt3 f3 h14
      refine g_X12_rule_73 ⟨fun c => absurd ((nI_leI (by omega) (by omega)).mp c) (by omega), fun _ => ⟨nat_in (by omega) (by decide), nat_in (by omega) (by decide), ?_⟩⟩
      rw [nI_1]
      exact ih (x2 + 1) _ (by omega) (wt3.n rfl) (f3.i rfl) h14
  refine ⟨rfl, fun c => ?_, fun c => ?_⟩
  · have h0 : ty = 0 := by
      have := (nI_leI (a := ty) (b := 0) (by omega) (by omega)).mp c
      omega
    subst h0
    exact cp (by decide) 0 0 mc rfl w2 F2 z14
  · refine ((rul_ok (d := d) A 164).2.2.2 0 (by decide) 0 (-1) mc P2 En (by omega)).to ?_
    rintro _ m2 ⟨rfl, h2, -, f2⟩
    have F3 := F2.tr f2 (RS_sub rfl)
    have wt2 := w2.fx f2
    generalize prF ((uI m 187 17 0).1 195) (minT ty 40) (fun _ => 0) 164 3 0 (0, -1) = R at h2 ⊢
    obtain ⟨v, q, u⟩ := R
    dsimp only at h2 ⊢
    have hqe : q ≤ minT ty 40 := h2.2.2.2.2.2.1
    have e57 : ∀ (m3 : Wm) (w3 : Int32), PS 195 ty 40 (minT ty 40) ((uI m 187 17 0).1 195) q w3 m3 → Fx (RS [22]) m2 m3 → (w3 = -1 → ty ≤ q) → AW ad E0 μX12_rule (d + 167 + 1) (tqQ [20, 21, 22, 48, 28] m) 57 [(0, .ref (ad 187)), (1, .int (nI ty))] [] m3 := by
      intro m3 w3 h3 f3 hw
      have F4 := F3.tr f3 (RS_sub rfl)
      have wt3 := wt2.fx f3
      have e14 : (m3.1 187 14).toInt = 0 := by rw [f3.at (a := 187) (k := 14) (by decide), f2.at (a := 187) (k := 14) (by decide)]; exact z14
      refine g_X12_rule_57 ((fine_ok h3).to ?_)
      rintro _ m' ⟨eq, rfl⟩
      obtain rfl := eq.symm
      by_cases hq : w3 = -1
      · have := hw hq
        exact ⟨1, by rw [if_pos hq], fun _ => cp (by omega) ty 0 m3 (by omega) wt3 F4 e14, fun c => absurd c (by decide)⟩
      · exact ⟨0, by rw [if_neg hq], fun c => absurd rfl c, fun _ => ⟨wt3, F4, ⟨_, rfl⟩, e14⟩⟩
    refine ⟨v, rfl, fun c => ?_, fun c => ?_⟩
    · rw [h2.2.2.2.1] at c
      exact e57 m2 u h2 Fx.rf (fun _ => (nI_leI (by omega) (by omega)).mp c)
    · rw [h2.2.2.2.1]
      refine (fault_ok A h2).to ?_
      rintro _ m3 ⟨rfl, h3, f3⟩
      refine ⟨rfl, e57 m3 _ h3 f3 (fun q => (flt_2 (p := _) (w := u) q (by omega)).elim)⟩
end RUM
end
section
/-! THE LEAGUE (model) -/
section LGM
variable {ad : Nat → Nat} {d : Nat} {m : Wm}
def lgS : List Nat := [20, 21, 22, 23, 24, 25, 27, 29, 39, 45, 46, 52]
def lgQ (m : Wm) (r : Option Value) (m' : Wm) : Prop := WT m' ∧ Fx (RS [20, 21, 22, 23, 24, 25, 27, 29, 39, 45, 46, 52]) m m' ∧ (∃ v : Int32, r = some (.int v)) ∧ (m'.1 187 14).toInt = 0 ∧ ((m'.1 187 10 = m.1 187 10 ∧ m'.1 187 11 = m.1 187 11) ∨ (m'.1 187 11).toInt = 0)
/-- what holds of the cells while the league is taken over -/
def lgI (m m3 : Wm) : Prop := WT m3 ∧ Fx (RS [20, 21, 22, 23, 24, 25, 27, 29, 39, 45, 46, 52]) m m3 ∧ (m3.1 187 14).toInt = 0 ∧ ((m3.1 187 10 = m.1 187 10 ∧ m3.1 187 11 = m.1 187 11) ∨ (m3.1 187 11).toInt = 0)
theorem lg_362 {m3 : Wm} {x3 x5 : Int32} (I : lgI m m3) (h0 : 0 ≤ x3.toInt) (h1 : x3.toInt ≤ 8) : AW ad E0 μX12_league (d + 1) (lgQ m) 362 [(0, .ref (ad 187)), (3, .int x3), (5, .int x5)] [] m3 := by
  obtain ⟨w, f, e, g⟩ := I
  exact g_X12_league_362 ⟨(w.t rfl h0 h1).t rfl (by decide) (by decide), (f.i rfl).i rfl, ⟨_, rfl⟩, e, g⟩
theorem lg_copy {x4 x5 : Int32} {th : Nat} (hth : th ≤ 8) : ∀ (j s : Nat) (m3 : Wm), s + j = th ∨ (th ≤ s ∧ j = 0 ∧ s ≤ 8) → lgI m m3 → AW ad E0 μX12_league (d + 1) (lgQ m) 250 [(0, .ref (ad 187)), (3, .int (nI th)), (4, .int x4), (5, .int x5), (7, .int (nI s))] [] m3 := by
  intro j
  have tt : (nI th).toInt = (th : Int) := nI_toInt (by omega)
  have l3 : ∀ m3 : Wm, lgI m m3 → AW ad E0 μX12_league (d + 1) (lgQ m) 362 [(0, .ref (ad 187)), (3, .int (nI th)), (5, .int x5)] [] m3 := fun m3 I => lg_362 I (by omega) (by omega)
  have l53 : ∀ (m3 : Wm) (v : Int32), lgI m m3 → lgI m (uI m3 187 53 v) := fun m3 v I => ⟨I.1.n rfl, I.2.1.i rfl, I.2.2.1, I.2.2.2⟩
  induction j with
  | zero =>
    intro s m3 hs I
    refine g_X12_league_250 ⟨fun _ => ⟨fun _ => l3 _ (l53 _ _ I), fun _ => ⟨fun _ => l3 _ I, fun _ => l3 _ (l53 _ _ I)⟩⟩, fun c => absurd ((nI_leI (by omega) (by omega)).mpr (by omega)) c⟩
  | succ j ih =>
    intro s m3 hs I
    have hs8 : s < 8 := by omega
    refine g_X12_league_250 ⟨fun c => absurd ((nI_leI (by omega) (by omega)).mp c) (by omega), fun _ => ?_⟩
    have L : ∀ (i a : Nat) (m4 : Wm), a + i = 4 → lgI m m4 → AW ad E0 μX12_league (d + 1) (lgQ m) 259 [(0, .ref (ad 187)), (3, .int (nI th)), (4, .int x4), (5, .int x5), (7, .int (nI s)), (8, .int (nI a))] [] m4 := by
      intro i
      induction i with
      | zero =>
        intro a m4 ha I4
        obtain ⟨w, f, e, g⟩ := I4
        have v := nat_in hs8 (show (8 : Nat) < 2147483648 by decide)
        refine g_X12_league_259 ⟨fun _ => ⟨v, v, v, v, v, ?_⟩, fun c => absurd ((le_l 4 4 rfl (by omega) (by omega)).mpr (by omega)) c⟩
        rw [nI_1]
        exact ih (s + 1) _ (by omega) ⟨(((w.n rfl).n rfl).n rfl).n rfl, (((f.i rfl).i rfl).i rfl).i rfl, e, g⟩
      | succ i ih2 =>
        intro a m4 ha I4
        obtain ⟨w, f, e, g⟩ := I4
        have l4 : (4 : Int32) * nI s + nI a = nI (4 * s + a) := by rw [l_mul 4 4 rfl, nI_add]
        refine g_X12_league_259 ⟨fun c => absurd ((le_l 4 4 rfl (by omega) (by omega)).mp c) (by omega), fun _ => ?_⟩
        rw [l4, nI_1]
        exact ⟨nat_in (by omega) (by decide), nat_in (by omega) (by decide), ih2 (a + 1) _ (by omega) ⟨w.n rfl, f.i rfl, e, g⟩⟩
    exact L 4 0 m3 (by decide) I
/-- the numbers read so far -/
def lgV (w x1 x4 : Int32) (fr th : Nat) : Prop := (w = -1 → x4 = 0 ∨ (1 ≤ x1.toInt ∧ x1.toInt ≤ 4)) ∧ fr ≤ 8 ∧ th ≤ 8
theorem lg_end {ty e : Nat} {tx : Nat → Int32} (A : PA 195 80 ty 76 e) {x1 x4 x5 : Int32} {fr th p : Nat} {w : Int32} {m3 : Wm} (h : PS 195 ty 76 e tx p w m3) (V : lgV w x1 x4 fr th) (I : lgI m m3) : AW ad E0 μX12_league (d + 1 + 1) (lgQ m) 184 [(0, .ref (ad 187)), (1, .int x1), (2, .int (nI fr)), (3, .int (nI th)), (4, .int x4), (5, .int x5)] [] m3 := by
  obtain ⟨v1, v2, v3⟩ := V
  have e203 : ∀ (m4 : Wm) (w4 : Int32), PS 195 ty 76 e tx p w4 m4 → Fx (RS [22]) m3 m4 → (w4 = -1 → w = -1) → AW ad E0 μX12_league (d + 1 + 1) (lgQ m) 203 [(0, .ref (ad 187)), (1, .int x1), (2, .int (nI fr)), (3, .int (nI th)), (4, .int x4), (5, .int x5)] [] m4 := by
    intro m4 w4 h4 f4 hw
    obtain ⟨w0, f0, e0, g0⟩ := I
    have w5 := w0.fx f4
    have f5 : Fx (RS [20, 21, 22, 23, 24, 25, 27, 29, 39, 45, 46, 52]) m m4 := f0.tr f4 (RS_sub rfl)
    have e5 : (m4.1 187 14).toInt = 0 := by rw [f4.at (a := 187) (k := 14) (by decide)]; exact e0
    have g5 : (m4.1 187 10 = m.1 187 10 ∧ m4.1 187 11 = m.1 187 11) ∨ (m4.1 187 11).toInt = 0 := by rw [f4.at (a := 187) (k := 10) (by decide), f4.at (a := 187) (k := 11) (by decide)]; exact g0
    refine g_X12_league_203 ((fine_ok h4).to ?_)
    rintro _ m' ⟨eq, rfl⟩
    obtain rfl := eq.symm
    by_cases hq : w4 = -1
    · refine ⟨1, by rw [if_pos hq], fun _ => ⟨fun _ => ?_, fun c => ?_⟩, fun c => absurd c (by decide)⟩
      · exact lg_copy v3 (th - fr) fr m4 (by omega) ⟨w5, f5, e5, g5⟩
      · rcases v1 (hw hq) with q | ⟨q1, q2⟩
        · exact absurd q c
        · exact lg_copy v3 (th - fr) fr _ (by omega) ⟨((((w5.t rfl q1 q2).t rfl (by decide) (by decide)).t rfl (by decide) (by decide)).n rfl).t rfl (by decide) (by decide), ((((f5.i rfl).i rfl).i rfl).i rfl).i rfl, e5, Or.inr rfl⟩
    · exact ⟨0, by rw [if_neg hq], fun c => absurd rfl c, fun _ => ⟨w5, f5, ⟨_, rfl⟩, e5, g5⟩⟩
  refine g_X12_league_184 ⟨fun _ => e203 m3 w h Fx.rf (fun q => q), fun _ => (fault_ok A h).to ?_⟩
  rintro _ m4 ⟨rfl, h4, f4⟩
  refine ⟨rfl, e203 m4 _ h4 f4 (fun q => ?_)⟩
  unfold fltF at q
  by_cases hq : w = -1
  · exact hq
  · rw [if_neg hq] at q
    exact q
theorem lgI.fx {m3 m4 : Wm} (I : lgI m m3) (f : Fx (RS [22]) m3 m4) : lgI m m4 := by
  obtain ⟨w0, f0, e0, g0⟩ := I
  exact ⟨w0.fx f, f0.tr f (RS_sub rfl), by rw [f.at (a := 187) (k := 14) (by decide)]; exact e0, by rw [f.at (a := 187) (k := 10) (by decide), f.at (a := 187) (k := 11) (by decide)]; exact g0⟩
theorem lg_loop {ty e : Nat} {tx : Nat → Int32} (A : PA 195 80 ty 76 e) : ∀ (k : Nat) (x1 x4 x5 : Int32) (fr th p : Nat) (w : Int32) (m3 : Wm), e - p < k → PS 195 ty 76 e tx p w m3 → lgV w x1 x4 fr th → lgI m m3 → AW ad E0 μX12_league (d + 4 + 1) (lgQ m) 57 [(0, .ref (ad 187)), (1, .int x1), (2, .int (nI fr)), (3, .int (nI th)), (4, .int x4), (5, .int x5), (6, .int 1)] [] m3 := by
  intro k
  induction k with
  | zero => intros; omega
  | succ k ih =>
    intro x1 x4 x5 fr th p w m3 hk h V I
    have e80 : e ≤ 80 := by have := A.2.2.2.1; have := A.2.2.2.2.1; omega
    -- the next round of the loop, or the end
    have nx : ∀ (x1 x4 x5 : Int32) (fr th p' : Nat) (w' : Int32) (m4 : Wm), p ≤ p' → PS 195 ty 76 e tx p' w' m4 → lgV w' x1 x4 fr th → lgI m m4 → Ct ad μX12_passes (d + 4) [.ref (ad 187), .int 59] m4 (fun r m10 => ∃ v11 : Int32, r = some (.int v11) ∧ AW ad E0 μX12_league (d + 4 + 1) (lgQ m) 57 [(0, .ref (ad 187)), (1, .int x1), (2, .int (nI fr)), (3, .int (nI th)), (4, .int x4), (5, .int x5), (6, .int v11)] [] m10) := by
      intro x1 x4 x5 fr th p' w' m4 hp h4 V4 I4
      refine (passes_ok A h4 (by decide)).to ?_
      rintro _ m5 ⟨rfl, h5, f5⟩
      by_cases h59 : passF tx e 59 (p', w') = true
      · rw [if_pos h59] at h5 ⊢
        have hlt : p' < e := pass_lt h59 (by decide)
        exact ⟨1, rfl, ih x1 x4 x5 fr th (p' + 1) w' m5 (by omega) h5 V4 (I4.fx f5)⟩
      · rw [if_neg h59] at h5 ⊢
        exact ⟨0, rfl, g_X12_league_57 ⟨fun _ => lg_end (d := d + 3) A h5 V4 (I4.fx f5), fun c => absurd rfl c⟩⟩
    refine g_X12_league_57 ⟨fun c => absurd c (by decide), fun _ => (fine_ok h).to ?_⟩
    rintro _ m' ⟨eq, rfl⟩
    obtain rfl := eq.symm
    refine ⟨_, rfl, fun _ => lg_end (d := d + 3) A h V I, fun _ => (passes_ok A h (by decide)).to ?_⟩
    rintro _ m4 ⟨rfl, h4, f4⟩
    have I4 := I.fx f4
    refine ⟨_, rfl, fun c => ?_, fun c => ?_⟩
    · have hn : ¬ passF tx e 119 (p, w) = true := (bz_if rfl).1 c
      rw [if_neg hn] at h4
      refine ⟨fun c8 => ?_, fun c8 => ?_⟩
      · have th7 : th ≤ 7 := by
          have : th ≠ 8 := fun q => c8 (by rw [q]; rfl)
          have := V.2.2
          omega
        have L : ∀ (j a p' : Nat) (w' : Int32) (m5 : Wm), a + j = 4 → p ≤ p' → PS 195 ty 76 e tx p' w' m5 → (w' = -1 → w = -1) → lgI m m5 → AW ad E0 μX12_league (d + 4 + 1) (lgQ m) 115 [(0, .ref (ad 187)), (1, .int x1), (2, .int (nI fr)), (3, .int (nI th)), (4, .int x4), (5, .int x5), (7, .int (nI a))] [] m5 := by
          intro j
          induction j with
          | zero =>
            intro a p' w' m5 ha hp h5 hw I5
            refine g_X12_league_115 ⟨fun _ => (passes_ok A h5 (by decide)).to ?_, fun q => absurd ((le_l 4 4 rfl (by omega) (by omega)).mpr (by omega)) q⟩
            rintro _ m6 ⟨rfl, h6, f6⟩
            have I6 := I5.fx f6
            refine ⟨_, rfl, nat_in (by omega) (by decide), ?_⟩
            rw [nI_1]
            obtain ⟨i1, i2, i3, i4⟩ := I6
            refine nx x1 x4 (x5 + 1) fr (th + 1) _ w' _ ?_ (h6.u (by decide) (by decide)) ⟨fun q => V.1 (hw q), V.2.1, by omega⟩ ⟨i1.n rfl, i2.i rfl, i3, i4⟩
            split <;> omega
          | succ j ih2 =>
            intro a p' w' m5 ha hp h5 hw I5
            have l4 : (4 : Int32) * nI th + nI a = nI (4 * th + a) := by rw [l_mul 4 4 rfl, nI_add]
            refine g_X12_league_115 ⟨fun q => absurd ((le_l 4 4 rfl (by omega) (by omega)).mp q) (by omega), fun _ => ?_⟩
            rw [l4, nI_1]
            refine ⟨fun _ => ⟨nat_in (by omega) (by decide), ?_⟩, fun _ => (digit_ok A h5 (lo := 0) (hi := 7) (by decide)).to ?_⟩
            · obtain ⟨i1, i2, i3, i4⟩ := I5
              exact ih2 (a + 1) p' w' _ (by omega) hp (h5.u (by decide) (by decide)) hw ⟨i1.n rfl, i2.i rfl, i3, i4⟩
            · rintro _ m6 ⟨rfl, h6, f6⟩
              have I6 := I5.fx f6
              have g1 := dig_1 (tx := tx) (e := e) (lo := 0) (hi := 7) (s := (p', w'))
              have g2 := dig_2 (tx := tx) (e := e) (lo := 0) (hi := 7) (s := (p', w')) (by have := h5.small A; show p' < _; omega)
              generalize digF tx e 0 7 (p', w') = D at h6 g1 g2 ⊢
              obtain ⟨v, q, u⟩ := D
              dsimp only at h6 g1 g2 ⊢
              obtain ⟨i1, i2, i3, i4⟩ := I6
              exact ⟨v, rfl, nat_in (by omega) (by decide), ih2 (a + 1) q u _ (by omega) (by omega) (h6.u (by decide) (by decide)) (fun z => hw (g2 z).1) ⟨i1.n rfl, i2.i rfl, i3, i4⟩⟩
        exact L 4 0 p w m4 (by decide) (Nat.le_refl _) h4 (fun q => q) I4
      · rw [h4.2.2.2.1]
        refine (fault_ok A h4).to ?_
        rintro _ m5 ⟨rfl, h5, f5⟩
        refine ⟨rfl, nx x1 x4 (x5 + 1) fr th p _ m5 (Nat.le_refl _) h5 ⟨fun q => (flt_2 (p := p) (w := w) q (by have := h.small A; omega)).elim, V.2.1, V.2.2⟩ (I4.fx f5)⟩
    · have hy : passF tx e 119 (p, w) = true := (bz_if rfl).2 c
      rw [if_pos hy] at h4
      refine (digit_ok A h4 (lo := 1) (hi := 4) (by decide)).to ?_
      rintro _ m6 ⟨rfl, h6, f6⟩
      have I6 := I4.fx f6
      have g1 := dig_1 (tx := tx) (e := e) (lo := 1) (hi := 4) (s := (p + 1, w))
      have g2 := dig_2 (tx := tx) (e := e) (lo := 1) (hi := 4) (s := (p + 1, w)) (by have := h4.small A; show p + 1 < _; omega)
      generalize digF tx e 1 4 (p + 1, w) = D at h6 g1 g2 ⊢
      obtain ⟨v, q, u⟩ := D
      dsimp only at h6 g1 g2 ⊢
      refine ⟨v, rfl, nx v 1 (x5 + 1) 0 0 q u m6 (by omega) h6 ⟨fun z => Or.inr ?_, by decide, by decide⟩ I6⟩
      obtain ⟨-, b2, b3, b4⟩ := g2 z
      have e1 : v = hrF tx e (p + 1) - 48 := congrArg Prod.fst b2
      have := dig_v (l := 1) (u := 4) rfl rfl (by decide) (by decide) b3 b4
      rw [e1]
      exact this
theorem s_X12_league (w : WT m) : Ct ad μX12_league (d + 5) [.ref (ad 187)] m (lgQ m) := by
  obtain ⟨n, en, -, n1, n2, n3⟩ := w.nat (a := 187) (k := 1) rfl (by decide)
  obtain ⟨ty, ety, -, y1, y2, y3⟩ := w.nat (a := 187) (k := 14) rfl (by decide)
  have w0 : WT (uI m 187 17 0) := w.n rfl
  have A := pa_text (n := ty) (t := 76) (by omega) (by decide)
  have he80 : minT ty 76 ≤ 80 := by unfold minT; split <;> omega
  refine v_X12_league (d := d + 4) ((begin_ok (na := 80) rfl).to ?_)
  rintro _ m1 ⟨rfl, e1⟩
  have e1' : m1 = bgM (uI m 187 17 0) 195 (nI ty) (nI 76) := by rw [e1]; show _ = bgM _ _ (nI ty) _; rw [← ety]; rfl
  subst e1'
  clear e1
  have f1 : Fx (RS [22]) (uI m 187 17 0) (bgM (uI m 187 17 0) 195 (nI ty) (nI 76)) := bg_fx
  have P1 : PS 195 ty 76 (minT ty 76) ((uI m 187 17 0).1 195) 0 (-1) (bgM (uI m 187 17 0) 195 (nI ty) (nI 76)) := bg_ps he80 (by decide)
  have w1 := w0.fx f1
  generalize bgM (uI m 187 17 0) 195 (nI ty) (nI 76) = mb at f1 P1 w1 ⊢
  have w2 : WT (uI mb 187 14 0) := w1.t rfl (by decide) (by decide)
  have P2 : PS 195 ty 76 (minT ty 76) ((uI m 187 17 0).1 195) 0 (-1) (uI mb 187 14 0) := by
    obtain ⟨b1, b2, b3, b4, b5, b6, b7⟩ := P1
    exact ⟨b1, b2, b3, b4, b5, b6, fun k hk => b7 k hk⟩
  have F2 : Fx (RS [20, 21, 22, 23, 24, 25, 27, 29, 39, 45, 46, 52]) m (uI mb 187 14 0) := (((Fx.rf (S := RS [20, 21, 22, 23, 24, 25, 27, 29, 39, 45, 46, 52]) (m := m)).i (a := 187) (k := 17) (v := 0) rfl).tr f1 (RS_sub rfl)).i rfl
  have I2 : lgI m (uI mb 187 14 0) := ⟨w2, F2, rfl, Or.inl ⟨f1.at (a := 187) (k := 10) (by decide), f1.at (a := 187) (k := 11) (by decide)⟩⟩
  have h01 : (uI mb 187 14 0).1 187 1 = nI n := (f1.at (a := 187) (k := 1) (by decide)).trans en
  generalize uI mb 187 14 0 = mc at w2 P2 F2 I2 h01 ⊢
  refine ⟨rfl, fun _ => ?_, fun _ => ⟨I2.1, I2.2.1, ⟨_, rfl⟩, I2.2.2.1, I2.2.2.2⟩⟩
  rw [h01]
  exact lg_loop A 81 _ 0 0 n n 0 (-1) mc (by omega) P2 ⟨fun _ => Or.inl rfl, by omega, by omega⟩ I2
end LGM
end
section
/-! THE CIRCLE (model): at least one game in the first round -/
section CIR
variable {ad : Nat → Nat} {d : Nat} {m : Wm}
theorem nI_sb {a b : Nat} (h : b ≤ a) (ha : a < 2147483648) : nI a - nI b = nI (a - b) := by
  refine (fa_eq _ _).mpr ?_
  have e1 : (nI a).toInt = (a : Int) := nI_toInt ha
  have e2 : (nI b).toInt = (b : Int) := nI_toInt (by omega)
  rw [ti_sub (by omega), e1, e2, nI_toInt (by omega)]
  omega
theorem nI_dn {a : Nat} (ha : a + 1 < 2147483648) : nI (a + 1) + (-1) = nI a := by
  refine (fa_eq _ _).mpr ?_
  have e1 : (nI (a + 1)).toInt = ((a + 1 : Nat) : Int) := nI_toInt ha
  rw [ti_addc (c := -1) rfl (by omega), e1, nI_toInt (by omega)]
  omega
theorem isS {x : Int32} {sd : Nat} (h1 : 1 ≤ sd) (hs : sd ≤ 8) : (0 ≤ x ∧ x ≤ nI sd - 1) ↔ (0 ≤ x.toInt ∧ x.toInt < (sd : Int)) := by
  have z0 : (0 : Int32).toInt = 0 := rfl
  have e1 : nI sd - 1 = nI (sd - 1) := nI_sb (b := 1) h1 (by omega)
  have e2 : (nI (sd - 1)).toInt = ((sd - 1 : Nat) : Int) := nI_toInt (by omega)
  rw [e1]
  constructor
  · intro ⟨a, b⟩
    have := z_le a
    have := z_le b
    omega
  · intro ⟨a, b⟩
    exact ⟨Int32.le_iff_toInt_le.mpr (by omega), Int32.le_iff_toInt_le.mpr (by omega)⟩
def ciQ (m : Wm) (r : Option Value) (m' : Wm) : Prop := WT m' ∧ Fx (RS [20, 25, 32, 52, 55]) m m' ∧ (∃ v : Int32, r = some (.int v)) ∧ ((m'.1 187 10 = m.1 187 10 ∧ m'.1 187 11 = m.1 187 11) ∨ 1 ≤ (m'.1 187 10).toInt)
theorem s_X12_circle (w : WT m) : Ct ad μX12_circle (d + 2) [.ref (ad 187)] m (ciQ m) := by
  obtain ⟨sd, es, -, s1, s2, s3⟩ := w.nat (a := 187) (k := 1) rfl (by decide)
  have sd8 : sd ≤ 8 := by omega
  have z0 : (0 : Int32).toInt = 0 := rfl
  have z1 : (1 : Int32).toInt = 1 := rfl
  have w0 : WT (uI m 187 17 0) := w.n rfl
  have F0 : Fx (RS [20, 25, 32, 52, 55]) m (uI m 187 17 0) := (Fx.rf (S := RS [20, 25, 32, 52, 55]) (m := m)).i (a := 187) (k := 17) rfl
  refine v_X12_circle (d := d + 1) ⟨fun c => ?_, fun _ => ⟨w0, F0, ⟨_, rfl⟩, Or.inl ⟨rfl, rfl⟩⟩⟩
  have es0 : (uI m 187 17 0).1 187 1 = nI sd := es
  rw [es0] at c ⊢
  have hsd : 2 ≤ sd := (le_l 2 2 rfl (by omega) (by omega)).mp c
  have er : nI sd - nI sd / 2 * 2 = nI (sd % 2) := nI_rem (g := sd) (G := 2) (by omega) (by decide) (by decide)
  rw [er, nI_add]
  obtain ⟨n, hn⟩ : ∃ n, sd + sd % 2 = n := ⟨_, rfl⟩
  rw [hn]
  have n8 : n ≤ 8 := by omega
  have n2 : 2 ≤ n := by omega
  have ne : n = 2 * (n / 2) := by omega
  have nn1 : nI n - 1 = nI (n - 1) := nI_sb (b := 1) (by omega) (by omega)
  have nh : nI n / 2 = nI (n / 2) := pk_div (a := n) (d := 2) (by omega) (by decide) (by decide)
  have sid : ∀ m1, Fx (RS [20, 25, 32, 52, 55]) m m1 → m1.1 187 1 = nI sd := fun m1 f1 => (f1.at (by decide)).trans es
  -- the rounds
  have R : ∀ (i r g : Nat) (m1 : Wm), r + i = n - 1 → WT m1 → Fx (RS [20, 25, 32, 52, 55]) m m1 → m1.1 187 10 = nI g → g ≤ 4 * r → (r = 0 → ∀ k, k < n → m1.1 203 k = nI k) → (1 ≤ r → 1 ≤ g) → AW ad E0 μX12_circle (d + 1 + 1) (ciQ m) 54 [(0, .ref (ad 187)), (1, .int (nI n)), (2, .int (nI r))] [] m1 := by
    intro i
    induction i with
    | zero =>
      intro r g m1 hr w1 f1 e10 hg hid h1g
      refine g_X12_circle_54 ?_
      rw [nn1]
      refine ⟨fun _ => ⟨(w1.t rfl (by rw [nI_toInt (by omega)]; omega) (by rw [nI_toInt (by omega)]; omega)).n rfl, (f1.i rfl).i rfl, ⟨_, rfl⟩, Or.inr ?_⟩, fun c => absurd ((nI_leI (by omega) (by omega)).mpr (by omega)) c⟩
      show 1 ≤ (m1.1 187 10).toInt
      rw [e10, nI_toInt (by omega)]
      have := h1g (by omega)
      omega
    | succ i ih =>
      intro r g m1 hr w1 f1 e10 hg hid h1g
      refine g_X12_circle_54 ?_
      rw [nn1]
      refine ⟨fun c => absurd ((nI_leI (by omega) (by omega)).mp c) (by omega), fun _ => ?_⟩
      -- the places move
      have L197 : ∀ (j : Nat) (x3 : Int32) (m2 : Wm), j + 1 ≤ n - 1 → 0 ≤ x3.toInt → x3.toInt ≤ 8 → ∀ g2, WT m2 → Fx (RS [20, 25, 32, 52, 55]) m m2 → m2.1 187 10 = nI g2 → g2 ≤ 4 * (r + 1) → 1 ≤ g2 → AW ad E0 μX12_circle (d + 1 + 1) (ciQ m) 197 [(0, .ref (ad 187)), (1, .int (nI n)), (2, .int (nI r)), (3, .int x3), (4, .int (nI (j + 1)))] [] m2 := by
        intro j
        induction j with
        | zero =>
          intro x3 m2 hj a1 a2 g2 w2 f2 e2 h2 h3
          refine g_X12_circle_197 ⟨fun _ => ?_, fun c => absurd (by decide) c⟩
          rw [nI_1]
          exact ih (r + 1) g2 _ (by omega) (w2.t rfl a1 a2) (f2.i rfl) e2 h2 (fun q => absurd q (by omega)) (fun _ => h3)
        | succ j ih2 =>
          intro x3 m2 hj a1 a2 g2 w2 f2 e2 h2 h3
          have q1 : nI (j + 1 + 1) - 1 = nI (j + 1) := nI_sb (b := 1) (by omega) (by omega)
          refine g_X12_circle_197 ?_
          rw [q1, nI_dn (by omega), nI_clamp (by omega), nI_clamp (by omega)]
          refine ⟨fun c => absurd ((l_le 1 1 rfl (by omega) (by omega)).mp c) (by omega), fun _ => ⟨nat_in (by omega) (by decide), nat_in (by omega) (by decide), ?_⟩⟩
          have t := w2.at (a := 203) (k := j + 1) rfl
          exact ih2 x3 _ (by omega) a1 a2 g2 (w2.t rfl t.1 t.2) (f2.i rfl) e2 h2 h3
      -- the games of the round
      have L63 : ∀ (j p g2 : Nat) (m2 : Wm), p + j = n / 2 → WT m2 → Fx (RS [20, 25, 32, 52, 55]) m m2 → m2.1 187 10 = nI g2 → g2 ≤ 4 * r + p → (1 ≤ r → 1 ≤ g2) → (r = 0 → (∀ k, k < n → m2.1 203 k = nI k) ∧ (1 ≤ g2 ∨ p = 0 ∨ (p = 1 ∧ n = sd + 1))) → AW ad E0 μX12_circle (d + 1 + 1) (ciQ m) 63 [(0, .ref (ad 187)), (1, .int (nI n)), (2, .int (nI r)), (3, .int (nI p))] [] m2 := by
        intro j
        induction j with
        | zero =>
          intro p g2 m2 hp w2 f2 e2 h2 h3 h4
          refine g_X12_circle_63 ?_
          rw [nh, nn1, nI_clamp (by omega)]
          refine ⟨fun _ => ⟨nat_in (by omega) (by decide), ?_⟩, fun c => absurd ((nI_leI (by omega) (by omega)).mpr (by omega)) c⟩
          have t := w2.at (a := 203) (k := n - 1) rfl
          obtain ⟨b, hb⟩ : ∃ b, n - 1 = b + 1 := ⟨n - 2, by omega⟩
          rw [hb] at t ⊢
          refine L197 b _ m2 (by omega) t.1 t.2 g2 w2 f2 e2 (by omega) ?_
          by_cases hr0 : r = 0
          · rcases (h4 hr0).2 with q | q | q
            · exact q
            · omega
            · omega
          · exact h3 (by omega)
        | succ j ih2 =>
          intro p g2 m2 hp w2 f2 e2 h2 h3 h4
          have tp := w2.at (a := 203) (k := p) rfl
          have tq := w2.at (a := 203) (k := n - 1 - p) rfl
          have sub : nI (n - 1) - nI p = nI (n - 1 - p) := nI_sb (by omega) (by omega)
          have es2 := sid m2 f2
          refine g_X12_circle_63 ?_
          rw [nh, nn1, sub, nI_1, nI_clamp (n := p) (by omega), nI_clamp (n := n - 1 - p) (by omega)]
          refine ⟨fun c => absurd ((nI_leI (by omega) (by omega)).mp c) (by omega), fun _ => ⟨nat_in (by omega) (by decide), nat_in (by omega) (by decide), (isSide_c es2).to ?_⟩⟩
          rintro _ m' ⟨eq, rfl⟩
          obtain rfl := eq.symm
          -- no game here
          have no : (r = 0 → ¬ ((p < sd) ∧ (n - 1 - p < sd))) → AW ad E0 μX12_circle (d + 1 + 1) (ciQ m) 63 [(0, .ref (ad 187)), (1, .int (nI n)), (2, .int (nI r)), (3, .int (nI (p + 1)))] [] m2 := by
            intro hno
            refine ih2 (p + 1) g2 m2 (by omega) w2 f2 e2 (by omega) h3 (fun hr0 => ⟨(h4 hr0).1, ?_⟩)
            have := hno hr0
            rcases (h4 hr0).2 with q | q | q
            · exact Or.inl q
            · exact Or.inr (Or.inr (by omega))
            · omega
          by_cases ha : 0 ≤ m2.1 203 p ∧ m2.1 203 p ≤ nI sd - 1
          · have ha' := (isS (by omega) sd8).mp ha
            refine ⟨1, by rw [if_pos ha], fun c => absurd c (by decide), fun _ => (isSide_c es2).to ?_⟩
            rintro _ m' ⟨eq, rfl⟩
            obtain rfl := eq.symm
            by_cases hb : 0 ≤ m2.1 203 (n - 1 - p) ∧ m2.1 203 (n - 1 - p) ≤ nI sd - 1
            · have hb' := (isS (by omega) sd8).mp hb
              refine ⟨1, by rw [if_pos hb], fun _ => ?_, fun c => absurd c (by decide)⟩
              generalize m2.1 203 p = va at ha' ⊢
              generalize m2.1 203 (n - 1 - p) = vb at hb' ⊢
              show vp_in ((4 : Int32) * (m2.1 187 10)) 160 ∧ vp_in (((4 : Int32) * (m2.1 187 10)) + 1) 160 ∧ vp_in (((4 : Int32) * (m2.1 187 10)) + 2) 160 ∧ vp_in (((4 : Int32) * (m2.1 187 10)) + 3) 160 ∧ AW ad E0 μX12_circle (d + 1 + 1) (ciQ m) 63 [(0, .ref (ad 187)), (1, .int (nI n)), (2, .int (nI r)), (3, .int (nI (p + 1)))] [] (uI (uI (uI (uI (uI m2 194 ((4 : Int32) * (m2.1 187 10)).toNatClampNeg va) 194 (((4 : Int32) * (m2.1 187 10)) + 1).toNatClampNeg vb) 194 (((4 : Int32) * (m2.1 187 10)) + 2).toNatClampNeg 0) 194 (((4 : Int32) * (m2.1 187 10)) + 3).toNatClampNeg (nI r)) 187 10 ((m2.1 187 10) + 1))
              rw [e2]
              have tg : (nI g2).toInt = (g2 : Int) := nI_toInt (by omega)
              have l4 : (4 : Int32) * nI g2 = nI (4 * g2) := l_mul 4 4 rfl g2
              have W : WT (uI (uI (uI (uI m2 194 ((4 : Int32) * nI g2).toNatClampNeg va) 194 (((4 : Int32) * nI g2) + 1).toNatClampNeg vb) 194 (((4 : Int32) * nI g2) + 2).toNatClampNeg 0) 194 (((4 : Int32) * nI g2) + 3).toNatClampNeg (nI r)) :=
                (((w2.up0 (x := nI g2) (v := va) ⟨by omega, by omega⟩ ⟨by omega, by omega⟩).up1 (x := nI g2) (v := vb) ⟨by omega, by omega⟩ ⟨by omega, by omega⟩).up2 (x := nI g2) ⟨by omega, by omega⟩).up3 (x := nI g2) ⟨by omega, by omega⟩
              refine ⟨by rw [l4]; exact nat_in (by omega) (by decide), by rw [l4, nI_1]; exact nat_in (by omega) (by decide), by rw [l4, add_l 2 2 rfl]; exact nat_in (by omega) (by decide), by rw [l4, add_l 3 3 rfl]; exact nat_in (by omega) (by decide), ?_⟩
              rw [nI_1 g2]
              refine ih2 (p + 1) (g2 + 1) _ (by omega) (W.t rfl (by rw [nI_toInt (by omega)]; omega) (by rw [nI_toInt (by omega)]; omega)) (((((f2.i rfl).i rfl).i rfl).i rfl).i rfl) rfl (by omega) (fun _ => by omega) (fun hr0 => ⟨(h4 hr0).1, Or.inl (by omega)⟩)
            · refine ⟨0, by rw [if_neg hb], fun c => absurd rfl c, fun _ => no (fun hr0 q => hb ((isS (by omega) sd8).mpr ?_))⟩
              rw [(h4 hr0).1 (n - 1 - p) (by omega), nI_toInt (by omega)]
              omega
          · refine ⟨0, by rw [if_neg ha], fun _ => no (fun hr0 q => ha ((isS (by omega) sd8).mpr ?_)), fun c => absurd rfl c⟩
            rw [(h4 hr0).1 p (by omega), nI_toInt (by omega)]
            omega
      exact L63 (n / 2) 0 g m1 (by omega) w1 f1 e10 (by omega) h1g (fun hr0 => ⟨hid hr0, Or.inr (Or.inl rfl)⟩)
  have L29 : ∀ (j k : Nat) (m1 : Wm), k + j = n → WT m1 → Fx (RS [20, 25, 32, 52, 55]) m m1 → (∀ i, i < k → m1.1 203 i = nI i) → AW ad E0 μX12_circle (d + 1 + 1) (ciQ m) 29 [(0, .ref (ad 187)), (1, .int (nI n)), (2, .int (nI k))] [] m1 := by
    intro j
    induction j with
    | zero =>
      intro k m1 hk w1 f1 h
      refine g_X12_circle_29 ⟨fun _ => ?_, fun c => absurd ((nI_leI (by omega) (by omega)).mpr (by omega)) c⟩
      exact R (n - 1) 0 0 _ (by omega) (w1.t rfl (by decide) (by decide)) (f1.i rfl) rfl (by decide) (fun _ i hi => h i (by omega)) (fun q => absurd q (by decide))
    | succ j ih =>
      intro k m1 hk w1 f1 h
      refine g_X12_circle_29 ⟨fun c => absurd ((nI_leI (by omega) (by omega)).mp c) (by omega), fun _ => ⟨nat_in (by omega) (by decide), ?_⟩⟩
      rw [nI_1, nI_clamp (by omega)]
      refine ih (k + 1) _ (by omega) (w1.t rfl (by rw [nI_toInt (by omega)]; omega) (by rw [nI_toInt (by omega)]; omega)) (f1.i rfl) (fun i hi => ?_)
      show (if 203 = 203 ∧ i = k then nI k else m1.1 203 i) = nI i
      by_cases hik : i = k
      · rw [if_pos ⟨rfl, hik⟩, hik]
      · rw [if_neg (fun q => hik q.2)]
        exact h i (by omega)
  exact L29 n 0 _ (by omega) w0 F0 (fun i hi => absurd hi (by omega))
end CIR
end
section
/-! THE TEXT: what the class holds as chars, the model holds as bytes -/
def CH (c b : Int32) : Prop := (0 ≤ b.toInt ∧ b.toInt ≤ 127 ∧ c = b) ∨ (b.toInt < 0 ∧ 128 ≤ c.toInt ∧ c.toInt ≤ 255)
theorem ch_of {x s1 s2 : Int32} {k : Nat} (h1 : ((s1.toUInt32 &&& Int32.toUInt32 31).toBitVec % 32).toNat = k) (h2 : (s2.toBitVec.smod 32).toNat = k) (hk : k = 0 ∨ k = 8 ∨ k = 16 ∨ k = 24) :
    CH (vp_nar .char ((((x.toUInt32 >>> (s1.toUInt32 &&& Int32.toUInt32 31)).toInt32 &&& (255 : Int32)).toUInt32 % 65536).toInt32)) (vp_nar .byte ((x >>> s2).toInt8.toInt32)) := by
  rw [pk_vb, pk_vc]
  obtain ⟨n, hn, rfl⟩ := wb_of32 x
  have e1 : ((nI n).toUInt32 >>> (s1.toUInt32 &&& Int32.toUInt32 31)).toInt32 = nI (n / 2 ^ k) := pk_ushrN hn s1 k h1
  rw [e1, show (255 : Int32) = nI (2 ^ 8 - 1) from rfl, fa_mask]
  have hc : n / 2 ^ k % 2 ^ 8 < 256 := Nat.mod_lt _ (by decide)
  have e2 : ((nI (n / 2 ^ k % 2 ^ 8)).toUInt32 % 65536).toInt32 = nI (n / 2 ^ k % 2 ^ 8) := by
    generalize n / 2 ^ k % 2 ^ 8 = q at hc
    have h3 : ∀ q : Fin 256, ((nI q.val).toUInt32 % 65536).toInt32 = nI q.val := by decide +kernel
    exact h3 ⟨q, hc⟩
  rw [e2]
  have e3 : ((nI n >>> s2).toInt8.toInt32).toInt = ((nI n).toInt >>> k).bmod (2 ^ 8) := by rw [Int8.toInt_toInt32, Int32.toInt_toInt8, pk_shr _ _ k h2]
  have e4 : (nI (n / 2 ^ k % 2 ^ 8)).toInt = ((n / 2 ^ k % 2 ^ 8 : Nat) : Int) := nI_toInt (by omega)
  have e5 : (nI n).toInt = (n : Int) ∨ (nI n).toInt = (n : Int) - 4294967296 := by
    by_cases h : n < 2147483648
    · exact Or.inl (nI_toInt h)
    · refine Or.inr ?_
      have h5 : (nI n).toInt = (n : Int).bmod (2 ^ 32) := Int32.toInt_ofNat'
      rw [h5, Int.bmod_def]
      rw [if_neg (by omega)]
      omega
  have e6 : ((nI n >>> s2).toInt8.toInt32).toInt = if ((n / 2 ^ k % 2 ^ 8 : Nat) : Int) < 128 then ((n / 2 ^ k % 2 ^ 8 : Nat) : Int) else ((n / 2 ^ k % 2 ^ 8 : Nat) : Int) - 256 := by
    rw [e3, Int.shiftRight_eq_div_pow, Int.bmod_def]
    have e7 : ((nI n).toInt / ((2 ^ k : Nat) : Int)) % ((2 ^ 8 : Nat) : Int) = ((n / 2 ^ k % 2 ^ 8 : Nat) : Int) := by
      rcases hk with rfl | rfl | rfl | rfl <;> rcases e5 with e | e <;> rw [e] <;> omega
    rw [e7]
    rfl
  generalize n / 2 ^ k % 2 ^ 8 = q at hc e4 e6
  generalize (nI n >>> s2).toInt8.toInt32 = b at e6
  by_cases hq : q < 128
  · rw [if_pos (by omega)] at e6
    exact Or.inl ⟨by omega, by omega, (fa_eq _ _).mpr (by omega)⟩
  · rw [if_neg (by omega)] at e6
    exact Or.inr ⟨by omega, by omega, by omega⟩
/-- a sign of the text is the same small number on both sides, or none on both -/
theorem CH.eq {c b t : Int32} (h : CH c b) (h0 : 0 ≤ t.toInt) (h1 : t.toInt ≤ 127) : c = t ↔ b = t := by
  rw [fa_eq, fa_eq b t]
  rcases h with ⟨a1, a2, rfl⟩ | ⟨a1, a2, a3⟩
  · exact Iff.rfl
  · constructor <;> intro q <;> omega
theorem CH.sb {c b t : Int32} (h : CH c b) (h0 : t.toInt = 48) (lo hi : Int) (hl : 0 ≤ lo) (hh : hi ≤ 50) : (lo ≤ (c - t).toInt ∧ (c - t).toInt ≤ hi) ↔ (lo ≤ (b - t).toInt ∧ (b - t).toInt ≤ hi) := by
  rcases h with ⟨a1, a2, rfl⟩ | ⟨a1, a2, a3⟩
  · exact Iff.rfl
  · have r := fb_rng b
    have e1 : (c - t).toInt = c.toInt - 48 := by rw [← h0]; exact ti_sub (by omega)
    have e2 : (b - t).toInt = b.toInt - 48 ∨ (b - t).toInt = b.toInt - 48 + 4294967296 := by
      rw [Int32.toInt_sub, h0, Int.bmod_def]
      by_cases hb : -2147483600 ≤ b.toInt
      · left; omega
      · right; omega
    constructor
    · intro q; omega
    · intro q; omega
theorem u_ne {m : Wm} {a k b j : Nat} {v : Int32} (h : ¬ (b = a ∧ j = k)) : (uI m a k v).1 b j = m.1 b j := if_neg h
theorem u_eq {m : Wm} {a k : Nat} {v : Int32} : (uI m a k v).1 a k = v := if_pos ⟨rfl, rfl⟩
section TXS
variable {ad : Nat → Nat} {d : Nat} {m : Wm}
def CHR (x : Int32) (k : Nat) : Int32 := vp_nar .char (((((x.toUInt32 >>> (((24 : Int32) - ((8 : Int32) * nI k)).toUInt32 &&& Int32.toUInt32 31)).toInt32) &&& (255 : Int32)).toUInt32 % 65536).toInt32)
def BYR (x : Int32) (k : Nat) : Int32 := vp_nar .byte ((x >>> (((8 : Int32) * (3 - nI k)) &&& 31)).toInt8.toInt32)
theorem ch_k (x : Int32) {k : Nat} (hk : k < 4) : CH (CHR x k) (BYR x k) := by
  have h1 : ∀ k : Fin 4, (((((24 : Int32) - ((8 : Int32) * nI k.val))).toUInt32 &&& Int32.toUInt32 31).toBitVec % 32).toNat = 24 - 8 * k.val := by decide +kernel
  have h2 : ∀ k : Fin 4, ((((8 : Int32) * (3 - nI k.val)) &&& 31).toBitVec.smod 32).toNat = 24 - 8 * k.val := by decide +kernel
  exact ch_of (h1 ⟨k, hk⟩) (h2 ⟨k, hk⟩) (by show 24 - 8 * k = 0 ∨ 24 - 8 * k = 8 ∨ 24 - 8 * k = 16 ∨ 24 - 8 * k = 24; omega)
theorem e_add {n : Nat} {x : Int32} (w : WT m) (hn : m.1 1 1 = nI n) (hn76 : n ≤ 76) : Ct ad μX10_add d [.ref (ad 1), .int x] m (fun r m' => r = some (.int 1) ∧ m'.1 1 1 = nI (n + 4) ∧ (∀ k, k < n → m'.1 2 k = m.1 2 k) ∧ (∀ k, k < 4 → m'.1 2 (n + k) = CHR x k) ∧ WT m' ∧ Fx (RS [0]) m m') := by
  have L : ∀ (j i : Nat) (m1 : Wm), i + j = 4 → m1.1 1 1 = nI (n + i) → (∀ k, k < n → m1.1 2 k = m.1 2 k) → (∀ k, k < i → m1.1 2 (n + k) = CHR x k) → WT m1 → Fx (RS [0]) m m1 →
      AW ad E0 μX10_add d (fun r m' => r = some (.int 1) ∧ m'.1 1 1 = nI (n + 4) ∧ (∀ k, k < n → m'.1 2 k = m.1 2 k) ∧ (∀ k, k < 4 → m'.1 2 (n + k) = CHR x k) ∧ WT m' ∧ Fx (RS [0]) m m') 13 [(0, .ref (ad 1)), (1, .int x), (2, .int (nI i))] [] m1 := by
    intro j
    induction j with
    | zero =>
      intro i m1 hi h1 h2 h3 w1 f1
      have hi4 : i = 4 := hi
      subst hi4
      exact g_X10_add_13 ⟨fun _ => ⟨rfl, h1, h2, h3, w1, f1⟩, fun c => absurd (by decide) c⟩
    | succ j ih =>
      intro i m1 hi h1 h2 h3 w1 f1
      refine g_X10_add_13 ⟨fun c => absurd ((le_l 4 4 rfl (by decide) (by omega)).mp c) (by omega), fun _ => ⟨?_, ?_⟩⟩
      · rw [h1]; exact nat_in (by omega) (by decide)
      · have e1 : nI i + 1 = nI (i + 1) := nI_1 i
        rw [e1, h1, nI_clamp (by omega)]
        refine ih (i + 1) _ (by omega) ?_ ?_ ?_ ?_ ?_
        · show m1.1 1 1 + 1 = nI (n + (i + 1))
          rw [h1, nI_1]
          rfl
        · intro k hk
          exact (u_ne (by omega)).trans ((u_ne (by omega)).trans (h2 k hk))
        · intro k hk
          refine (u_ne (by omega)).trans ?_
          by_cases hki : k = i
          · subst hki
            exact u_eq
          · exact (u_ne (by omega)).trans (h3 k (by omega))
        · refine (w1.n rfl).t rfl ?_ ?_
          · show (0 : Int) ≤ (m1.1 1 1 + 1).toInt
            rw [h1, nI_1, nI_toInt (by omega)]; omega
          · show (m1.1 1 1 + 1).toInt ≤ 80
            rw [h1, nI_1, nI_toInt (by omega)]; omega
        · exact (f1.i rfl).i rfl
  refine v_X10_add ⟨fun _ => L 4 0 m rfl hn (fun _ _ => rfl) (fun k hk => absurd hk (Nat.not_lt_zero k)) w Fx.rf, fun c => absurd ?_ c⟩
  rw [hn]
  exact nI_le (b := 76) hn76 (by decide)
def TXI (m : Wm) : Prop := m.1 1 1 = m.1 187 14 ∧ ∀ k : Nat, (k : Int) < (m.1 1 1).toInt → CH (m.1 2 k) (m.1 195 k)
theorem e_signC {x : Int32} (w : WT m) {n : Nat} (hn : m.1 1 1 = nI n) (hn80 : n ≤ 80) : Ct ad μX11_sign (d + 1) [.ref (ad 0), .int x] m (fun r m' => WT m' ∧ Fx (RS [0]) m m' ∧ ((n ≤ 76 ∧ r = some (.int (nI (n + 4))) ∧ m'.1 1 1 = nI (n + 4) ∧ (∀ k, k < n → m'.1 2 k = m.1 2 k) ∧ (∀ k, k < 4 → m'.1 2 (n + k) = CHR x k)) ∨ (76 < n ∧ r = some (.int (-1)) ∧ m' = m))) := by
  by_cases h76 : n ≤ 76
  · refine v_X11_sign ((e_add w hn h76).to ?_)
    rintro _ m1 ⟨rfl, h1, h2, h3, w1, f1⟩
    exact ⟨1, rfl, fun c => absurd c (by decide), fun _ => ⟨w1, f1, Or.inl ⟨h76, by rw [h1], h1, h2, h3⟩⟩⟩
  · have hc : ¬ m.1 1 1 ≤ (76 : Int32) := by
      rw [hn]
      exact fun q => h76 ((l_le 76 76 rfl (by decide) (by omega)).mp q)
    exact v_X11_sign (v_X10_add ⟨fun q => absurd q hc, fun _ => ⟨0, rfl, fun _ => ⟨w, Fx.rf, Or.inr ⟨by omega, rfl, rfl⟩⟩, fun q => absurd rfl q⟩⟩)
theorem e_signM {x : Int32} (w : WT m) {n : Nat} (hn : m.1 187 14 = nI n) (hn80 : n ≤ 80) : Ct ad μX12_sign d [.ref (ad 187), .int x] m (fun r m' => WT m' ∧ Fx (RS [20, 21]) m m' ∧ ((n ≤ 76 ∧ r = some (.int (nI (n + 4))) ∧ m'.1 187 14 = nI (n + 4) ∧ (∀ k, k < n → m'.1 195 k = m.1 195 k) ∧ (∀ k, k < 4 → m'.1 195 (n + k) = BYR x k)) ∨ (76 < n ∧ r = some (.int (-1)) ∧ m'.1 187 14 = nI n ∧ (∀ k, k < n → m'.1 195 k = m.1 195 k)))) := by
  have w0 : WT (uI m 187 17 0) := w.n rfl
  have e4 : (uI m 187 17 0).1 187 14 = nI n := hn
  have ea : nI n + 4 = nI (n + 4) := add_l 4 4 rfl n
  refine v_X12_sign ⟨fun c => ?_, fun c => ?_⟩
  · have h76 : n ≤ 76 := by
      rw [e4, ea] at c
      have := (l_le 80 80 rfl (by decide) (by omega)).mp c
      omega
    have L : ∀ (j i : Nat) (m1 : Wm), i + j = 4 → m1.1 187 14 = nI (n + i) → (∀ k, k < n → m1.1 195 k = m.1 195 k) → (∀ k, k < i → m1.1 195 (n + k) = BYR x k) → WT m1 → Fx (RS [20, 21]) m m1 →
        AW ad E0 μX12_sign d (fun r m' => WT m' ∧ Fx (RS [20, 21]) m m' ∧ ((n ≤ 76 ∧ r = some (.int (nI (n + 4))) ∧ m'.1 187 14 = nI (n + 4) ∧ (∀ k, k < n → m'.1 195 k = m.1 195 k) ∧ (∀ k, k < 4 → m'.1 195 (n + k) = BYR x k)) ∨ (76 < n ∧ r = some (.int (-1)) ∧ m'.1 187 14 = nI n ∧ (∀ k, k < n → m'.1 195 k = m.1 195 k)))) 20 [(0, .ref (ad 187)), (1, .int x), (2, .int (3 - nI i))] [] m1 := by
      intro j
      induction j with
      | zero =>
        intro i m1 hi h1 h2 h3 w1 f1
        have hi4 : i = 4 := hi
        subst hi4
        exact g_X12_sign_20 ⟨fun _ => ⟨w1, f1, Or.inl ⟨h76, by rw [h1], h1, h2, h3⟩⟩, fun c => absurd (by decide) c⟩
      | succ j ih =>
        intro i m1 hi h1 h2 h3 w1 f1
        have hi4 : i < 4 := by omega
        have a1 : ∀ i : Fin 4, ¬ ((3 : Int32) - nI i.val < 0) ∧ (3 : Int32) - nI i.val + (-1) = 3 - nI (i.val + 1) := by decide +kernel
        refine g_X12_sign_20 ⟨fun c => absurd c (a1 ⟨i, hi4⟩).1, fun _ => ⟨?_, ?_⟩⟩
        · rw [h1]; exact nat_in (by omega) (by decide)
        · rw [(a1 ⟨i, hi4⟩).2, h1, nI_clamp (by omega)]
          refine ih (i + 1) _ (by omega) ?_ ?_ ?_ ?_ ?_
          · show nI (n + i) + 1 = nI (n + (i + 1))
            rw [nI_1]
            rfl
          · intro k hk
            exact (u_ne (by omega)).trans ((u_ne (by omega)).trans (h2 k hk))
          · intro k hk
            by_cases hki : k = i
            · subst hki
              exact u_eq
            · exact (u_ne (by omega)).trans ((u_ne (by omega)).trans (h3 k (by omega)))
          · refine (w1.t rfl ?_ ?_).n rfl
            · rw [nI_1, nI_toInt (by omega)]; omega
            · rw [nI_1, nI_toInt (by omega)]; omega
          · exact (f1.i rfl).i rfl
    exact L 4 0 _ rfl e4 (fun _ _ => rfl) (fun k hk => absurd hk (Nat.not_lt_zero k)) w0 (Fx.rf.i rfl)
  · have h76 : 76 < n := by
      rw [e4, ea] at c
      exact Nat.lt_of_not_le (fun q => c ((l_le 80 80 rfl (by decide) (by omega)).mpr (by omega)))
    exact ⟨w0, Fx.rf.i rfl, Or.inr ⟨h76, rfl, e4, fun _ _ => rfl⟩⟩
/-- the text behind both calls of sign() -/
theorem sign_both {x : Int32} (w : WT m) (T : TXI m) : Ct ad μX11_sign (d + 1) [.ref (ad 0), .int x] m (fun r m1 => ∃ v : Int32, r = some (.int v) ∧ WT m1 ∧ Fx (RS [0]) m m1 ∧ Ct ad μX12_sign (d + 1) [.ref (ad 187), .int x] m1 (fun r m2 => r = some (.int v) ∧ WT m2 ∧ Fx (RS [20, 21]) m1 m2 ∧ TXI m2)) := by
  obtain ⟨t1, t2⟩ := T
  obtain ⟨n, hn, -, -, h80, -⟩ := w.nat (a := 1) (k := 1) rfl (by decide)
  have h80' : n ≤ 80 := by omega
  have tn' : (m.1 1 1).toInt = n := by rw [hn]; exact nI_toInt (by omega)
  refine (e_signC w hn h80').to ?_
  rintro r m1 ⟨w1, f1, h⟩
  have g14 : m1.1 187 14 = nI n := (f1.at (a := 187) (k := 14) (by decide)).trans (t1.symm.trans hn)
  have g195 : ∀ k, m1.1 195 k = m.1 195 k := fun k => f1.at (a := 195) (k := k) (by show ¬ (([0] : List Nat).elem 21 = true); decide)
  have h2 : ∀ m2, Fx (RS [20, 21]) m1 m2 → m2.1 1 1 = m1.1 1 1 ∧ ∀ k, m2.1 2 k = m1.1 2 k := fun m2 f2 => ⟨f2.at (a := 1) (k := 1) (by decide), fun k => f2.at (a := 2) (k := k) (by show ¬ (([20, 21] : List Nat).elem 0 = true); decide)⟩
  rcases h with ⟨h76, rfl, a1, a2, a3⟩ | ⟨h76, rfl, rfl⟩
  · refine ⟨_, rfl, w1, f1, (e_signM w1 g14 h80').to ?_⟩
    rintro r m2 ⟨w2, f2, b⟩
    obtain ⟨c1, c2⟩ := h2 m2 f2
    rcases b with ⟨-, rfl, b1, b2, b3⟩ | ⟨q, -⟩
    · refine ⟨rfl, w2, f2, by rw [c1, a1, b1], fun k hk => ?_⟩
      rw [c1, a1, nI_toInt (by omega)] at hk
      rw [c2]
      by_cases hkn : k < n
      · rw [a2 k hkn, b2 k hkn, g195]
        exact t2 k (by omega)
      · have e : k = n + (k - n) := by omega
        rw [e, a3 (k - n) (by omega), b3 (k - n) (by omega)]
        exact ch_k x (by omega)
    · omega
  · refine ⟨_, rfl, w1, f1, (e_signM w1 g14 h80').to ?_⟩
    rintro r m2 ⟨w2, f2, b⟩
    obtain ⟨c1, c2⟩ := h2 m2 f2
    rcases b with ⟨q, -⟩ | ⟨-, rfl, b1, b2⟩
    · omega
    · refine ⟨rfl, w2, f2, by rw [c1, hn, b1], fun k hk => ?_⟩
      rw [c1] at hk
      rw [c2, b2 k (by omega)]
      exact t2 k hk
end TXS
end
section
/-! THE LEAGUE'S TEXT, SIGN BY SIGN: what stands (0 a line is wanted, 1 behind w, 2 in a side, 3 a line is done), digits of the side, lines, sides, arts, how many old sides stay, whether a w came, who is ill, the skills -/
abbrev LgSt : Type := Nat × Nat × Nat × Nat × Nat × Nat × Bool × (Nat → Bool) × (Nat → Int32)
abbrev lEnd (st dg ar : Nat) : Prop := st = 3 ∨ (st = 2 ∧ dg = ar)
def updB (f : Nat → Bool) (i : Nat) (b : Bool) : Nat → Bool := fun k => if k = i then b else f k
def clr4 (sk : Nat → Int32) (s : Nat) : Nat → Int32 := fun k => if 4 * s ≤ k ∧ k < 4 * s + 4 then 0 else sk k
def lsk (c : Int32) (st dg ln sd ar fr : Nat) (wp : Bool) (il : Nat → Bool) (sk : Nat → Int32) : Option LgSt :=
  if 0 ≤ (c - 48).toInt ∧ (c - 48).toInt ≤ 7 then some (st, dg + 1, ln, sd, ar, fr, wp, il, upd sk (4 * (sd - 1) + dg) (c - 48)) else none
def lst (c : Int32) (st dg ln sd ar fr : Nat) (wp : Bool) (il : Nat → Bool) (sk : Nat → Int32) : Option LgSt :=
  if c = 59 ∧ lEnd st dg ar then some (0, dg, ln, sd, ar, fr, wp, il, sk)
  else if st = 0 then (if c = 119 then some (1, dg, ln + 1, sd, ar, fr, wp, il, sk) else if sd < 8 then lsk c 2 0 (ln + 1) (sd + 1) ar fr wp (updB il sd false) (clr4 sk sd) else none)
  else if st = 1 then (if 1 ≤ (c - 48).toInt ∧ (c - 48).toInt ≤ 4 then some (3, dg, ln, 0, (c - 48).toNatClampNeg, 0, true, (fun _ => false), (fun _ => 0)) else none)
  else if st = 2 then (if dg < ar then lsk c 2 dg ln sd ar fr wp il sk else if c = 33 then some (3, dg, ln, sd, ar, fr, wp, updB il (sd - 1) true, sk) else none)
  else none
/-- what comes of the text from the sign p on, k signs before its end: where it is wrong, or what stands at its end -/
def LO (tx : Nat → Int32) (big : Bool) : Nat → Nat → LgSt → Nat ⊕ LgSt
  | 0, p, (st, dg, ln, sd, ar, fr, wp, il, sk) => if big = false ∧ lEnd st dg ar then .inr (st, dg, ln, sd, ar, fr, wp, il, sk) else .inl p
  | k + 1, p, (st, dg, ln, sd, ar, fr, wp, il, sk) => match lst (tx p) st dg ln sd ar fr wp il sk with
    | none => .inl p
    | some L => LO tx big k (p + 1) L
section LOS
variable {tx : Nat → Int32} {big : Bool} {k p st dg ln sd ar fr : Nat} {wp : Bool} {il : Nat → Bool} {sk : Nat → Int32} {L : LgSt}
theorem LO_s (h : lst (tx p) st dg ln sd ar fr wp il sk = some L) : LO tx big (k + 1) p (st, dg, ln, sd, ar, fr, wp, il, sk) = LO tx big k (p + 1) L := by
  show (match lst (tx p) st dg ln sd ar fr wp il sk with | none => Sum.inl p | some L => LO tx big k (p + 1) L) = _
  rw [h]
theorem LO_f (h : lst (tx p) st dg ln sd ar fr wp il sk = none) : LO tx big (k + 1) p (st, dg, ln, sd, ar, fr, wp, il, sk) = .inl p := by
  show (match lst (tx p) st dg ln sd ar fr wp il sk with | none => Sum.inl p | some L => LO tx big k (p + 1) L) = _
  rw [h]
theorem LO_e (h : big = false ∧ lEnd st dg ar) : LO tx big 0 p (st, dg, ln, sd, ar, fr, wp, il, sk) = .inr (st, dg, ln, sd, ar, fr, wp, il, sk) := if_pos h
theorem LO_n (h : ¬ (big = false ∧ lEnd st dg ar)) : LO tx big 0 p (st, dg, ln, sd, ar, fr, wp, il, sk) = .inl p := if_neg h
theorem lst_ch {c b : Int32} (h : CH c b) : lst c st dg ln sd ar fr wp il sk = lst b st dg ln sd ar fr wp il sk := by
  rcases h with ⟨-, -, rfl⟩ | ⟨a1, a2, a3⟩
  · rfl
  · have r := fb_rng b
    have z48 : (48 : Int32).toInt = 48 := rfl
    have e1 : (c - 48).toInt = c.toInt - 48 := ti_sub (by omega)
    have e2 : (b - 48).toInt = b.toInt - 48 ∨ (b - 48).toInt = b.toInt - 48 + 4294967296 := by
      rw [Int32.toInt_sub, z48, Int.bmod_def]
      by_cases hb : -2147483600 ≤ b.toInt
      · left; omega
      · right; omega
    have c59 : ¬ c = 59 := fun q => by have := congrArg Int32.toInt q; have z : (59 : Int32).toInt = 59 := rfl; omega
    have c119 : ¬ c = 119 := fun q => by have := congrArg Int32.toInt q; have z : (119 : Int32).toInt = 119 := rfl; omega
    have c33 : ¬ c = 33 := fun q => by have := congrArg Int32.toInt q; have z : (33 : Int32).toInt = 33 := rfl; omega
    have b59 : ¬ b = 59 := fun q => by have := congrArg Int32.toInt q; have z : (59 : Int32).toInt = 59 := rfl; omega
    have b119 : ¬ b = 119 := fun q => by have := congrArg Int32.toInt q; have z : (119 : Int32).toInt = 119 := rfl; omega
    have b33 : ¬ b = 33 := fun q => by have := congrArg Int32.toInt q; have z : (33 : Int32).toInt = 33 := rfl; omega
    have c7 : ¬ (0 ≤ (c - 48).toInt ∧ (c - 48).toInt ≤ 7) := by omega
    have b7 : ¬ (0 ≤ (b - 48).toInt ∧ (b - 48).toInt ≤ 7) := by omega
    have c4 : ¬ (1 ≤ (c - 48).toInt ∧ (c - 48).toInt ≤ 4) := by omega
    have b4 : ¬ (1 ≤ (b - 48).toInt ∧ (b - 48).toInt ≤ 4) := by omega
    unfold lst lsk
    simp only [c59, c119, c33, b59, b119, b33, c7, b7, c4, b4, false_and, if_false]
theorem LO_ch {tb : Nat → Int32} : ∀ {k p : Nat} {L : LgSt}, (∀ j, j < p + k → CH (tx j) (tb j)) → LO tx big k p L = LO tb big k p L := by
  intro k
  induction k with
  | zero => intro p L _; obtain ⟨st, dg, ln, sd, ar, fr, wp, il, sk⟩ := L; rfl
  | succ k ih =>
    intro p L h
    obtain ⟨st, dg, ln, sd, ar, fr, wp, il, sk⟩ := L
    have e := lst_ch (st := st) (dg := dg) (ln := ln) (sd := sd) (ar := ar) (fr := fr) (wp := wp) (il := il) (sk := sk) (h p (by omega))
    cases hl : lst (tb p) st dg ln sd ar fr wp il sk with
    | none => rw [LO_f hl, LO_f (e.trans hl)]
    | some L' => rw [LO_s hl, LO_s (e.trans hl)]; exact ih (fun j hj => h j (by omega))
theorem lst_open {c : Int32} (hc : c ≠ 119) (h8 : sd < 8) (ha : 1 ≤ ar) : lst c 0 dg ln sd ar fr wp il sk = lst c 2 0 (ln + 1) (sd + 1) ar fr wp (updB il sd false) (clr4 sk sd) := by
  unfold lst
  rw [if_neg (by omega), if_pos rfl, if_neg hc, if_pos h8, if_neg (by omega), if_neg (by decide), if_neg (by decide), if_pos rfl, if_pos (by omega)]
/-- a side is begun ahead of its first digit -/
theorem LO_open (hc : k ≠ 0 → tx p ≠ 119) (h8 : sd < 8) (ha : 1 ≤ ar) : LO tx big k p (0, dg, ln, sd, ar, fr, wp, il, sk) = LO tx big k p (2, 0, ln + 1, sd + 1, ar, fr, wp, updB il sd false, clr4 sk sd) := by
  cases k with
  | zero => rw [LO_n (by omega), LO_n (by omega)]
  | succ k =>
    have e := lst_open (dg := dg) (ln := ln) (fr := fr) (wp := wp) (il := il) (sk := sk) (hc (Nat.succ_ne_zero k)) h8 ha
    cases hl : lst (tx p) 2 0 (ln + 1) (sd + 1) ar fr wp (updB il sd false) (clr4 sk sd) with
    | none => rw [LO_f hl, LO_f (e.trans hl)]
    | some L' => rw [LO_s hl, LO_s (e.trans hl)]
theorem lst_w : lst 119 0 dg ln sd ar fr wp il sk = some (1, dg, ln + 1, sd, ar, fr, wp, il, sk) := by
  unfold lst
  rw [if_neg (fun q => absurd q.1 (by decide)), if_pos rfl, if_pos rfl]
theorem lst_a {c : Int32} (h : 1 ≤ (c - 48).toInt ∧ (c - 48).toInt ≤ 4) : lst c 1 dg ln sd ar fr wp il sk = some (3, dg, ln, 0, (c - 48).toNatClampNeg, 0, true, (fun _ => false), (fun _ => 0)) := by
  unfold lst
  rw [if_neg (by omega), if_neg (by decide), if_pos rfl, if_pos h]
theorem lst_an {c : Int32} (h : ¬ (1 ≤ (c - 48).toInt ∧ (c - 48).toInt ≤ 4)) : lst c 1 dg ln sd ar fr wp il sk = none := by
  unfold lst
  rw [if_neg (by omega), if_neg (by decide), if_pos rfl, if_neg h]
theorem lst_8 {c : Int32} (hc : c ≠ 119) (h8 : ¬ sd < 8) : lst c 0 dg ln sd ar fr wp il sk = none := by
  unfold lst
  rw [if_neg (by omega), if_pos rfl, if_neg hc, if_neg h8]
theorem lst_d {c : Int32} (h : 0 ≤ (c - 48).toInt ∧ (c - 48).toInt ≤ 7) (hd : dg < ar) : lst c 2 dg ln sd ar fr wp il sk = some (2, dg + 1, ln, sd, ar, fr, wp, il, upd sk (4 * (sd - 1) + dg) (c - 48)) := by
  unfold lst lsk
  rw [if_neg (by omega), if_neg (by decide), if_neg (by decide), if_pos rfl, if_pos hd, if_pos h]
theorem lst_dn {c : Int32} (h : ¬ (0 ≤ (c - 48).toInt ∧ (c - 48).toInt ≤ 7)) (hd : dg < ar) : lst c 2 dg ln sd ar fr wp il sk = none := by
  unfold lst lsk
  rw [if_neg (by omega), if_neg (by decide), if_neg (by decide), if_pos rfl, if_pos hd, if_neg h]
theorem lst_i : lst 33 2 ar ln sd ar fr wp il sk = some (3, ar, ln, sd, ar, fr, wp, updB il (sd - 1) true, sk) := by
  unfold lst
  rw [if_neg (fun q => absurd q.1 (by decide)), if_neg (by decide), if_neg (by decide), if_pos rfl, if_neg (by omega), if_pos rfl]
theorem lst_c (h : lEnd st dg ar) : lst 59 st dg ln sd ar fr wp il sk = some (0, dg, ln, sd, ar, fr, wp, il, sk) := by
  unfold lst
  rw [if_pos ⟨rfl, h⟩]
theorem lst_en {c : Int32} (h : lEnd st dg ar) (h1 : c ≠ 59) (h2 : st = 2 → c ≠ 33) : lst c st dg ln sd ar fr wp il sk = none := by
  unfold lst
  rw [if_neg (fun q => h1 q.1)]
  rcases h with rfl | ⟨rfl, rfl⟩
  · rw [if_neg (by decide), if_neg (by decide), if_neg (by decide)]
  · rw [if_neg (by decide), if_neg (by decide), if_pos rfl, if_neg (by omega), if_neg (h2 rfl)]
end LOS
/-! the model reads so -/
section LHM
variable {ad : Nat → Nat} {d : Nat} {m : Wm} {O : Nat ⊕ LgSt}
def lgE (m : Wm) (ln sd ar fr : Nat) (wp : Bool) (il : Nat → Bool) (sk : Nat → Int32) (m' : Wm) : Prop :=
  m'.1 187 1 = nI sd ∧ m'.1 187 0 = nI ar ∧ m'.1 187 30 = 0 ∧ m'.1 187 53 = m.1 187 53 + 1 ∧
  (if wp = true then m'.1 187 10 = 0 ∧ m'.1 187 11 = 0 ∧ m'.1 187 12 = 0 ∧ m'.1 187 52 = 0 else m'.1 187 10 = m.1 187 10 ∧ m'.1 187 11 = m.1 187 11 ∧ m'.1 187 12 = m.1 187 12 ∧ m'.1 187 52 = m.1 187 52) ∧
  (∀ k, 4 * fr ≤ k → k < 4 * sd → m'.1 188 k = sk k) ∧ (∀ k, k < 4 * fr → m'.1 188 k = m.1 188 k) ∧
  (∀ t, fr ≤ t → t < sd → m'.1 190 t = 0 ∧ m'.1 191 t = 0 ∧ m'.1 192 t = 0 ∧ m'.1 189 t = if il t = true then 1 else 0) ∧
  (∀ t, t < fr → m'.1 190 t = m.1 190 t ∧ m'.1 191 t = m.1 191 t ∧ m'.1 192 t = m.1 192 t ∧ m'.1 189 t = m.1 189 t)
def lhQ (m : Wm) (O : Nat ⊕ LgSt) (r : Option Value) (m' : Wm) : Prop := lgQ m r m' ∧ (∀ q, O = .inl q → r = some (.int (-1 - nI q)) ∧ Fx (RS [20, 21, 22, 27]) m m') ∧
  ∀ st dg ln sd ar fr wp il sk, O = .inr (st, dg, ln, sd, ar, fr, wp, il, sk) → r = some (.int (nI ln)) ∧ lgE m ln sd ar fr wp il sk m'
def lhN (fr sd : Nat) (il : Nat → Bool) (sk : Nat → Int32) (m3 : Wm) : Prop := (∀ k, 4 * fr ≤ k → k < 4 * sd → m3.1 197 k = sk k) ∧ (∀ s, fr ≤ s → s < sd → m3.1 198 s = if il s = true then 1 else 0)
/-- while it is taken over: the skills below b, the sides below s are there -/
def lhC (m : Wm) (n ar fr sd s b : Nat) (wp : Bool) (il : Nat → Bool) (sk : Nat → Int32) (m3 : Wm) : Prop :=
  lhN fr sd il sk m3 ∧ m3.1 187 0 = nI ar ∧ m3.1 187 1 = nI n ∧ m3.1 187 53 = m.1 187 53 ∧
  (if wp = true then m3.1 187 10 = 0 ∧ m3.1 187 11 = 0 ∧ m3.1 187 12 = 0 ∧ m3.1 187 52 = 0 else m3.1 187 10 = m.1 187 10 ∧ m3.1 187 11 = m.1 187 11 ∧ m3.1 187 12 = m.1 187 12 ∧ m3.1 187 52 = m.1 187 52) ∧
  (∀ k, 4 * fr ≤ k → k < b → m3.1 188 k = sk k) ∧ (∀ k, k < 4 * fr → m3.1 188 k = m.1 188 k) ∧
  (∀ t, fr ≤ t → t < s → m3.1 190 t = 0 ∧ m3.1 191 t = 0 ∧ m3.1 192 t = 0 ∧ m3.1 189 t = if il t = true then 1 else 0) ∧
  (∀ t, t < fr → m3.1 190 t = m.1 190 t ∧ m3.1 191 t = m.1 191 t ∧ m3.1 192 t = m.1 192 t ∧ m3.1 189 t = m.1 189 t)
theorem lh_362 {n st dg ln ar fr sd : Nat} {wp : Bool} {il : Nat → Bool} {sk : Nat → Int32} {m3 : Wm} {v : Int32} (hO : O = .inr (st, dg, ln, sd, ar, fr, wp, il, sk)) (h8 : sd ≤ 8) (I : lgI m m3) (C : lhC m n ar fr sd sd (4 * sd) wp il sk m3) (hv : v = m3.1 187 53 + 1) :
    AW ad E0 μX12_league (d + 1) (lhQ m O) 362 [(0, .ref (ad 187)), (3, .int (nI sd)), (5, .int (nI ln))] [] (uI m3 187 53 v) := by
  have e1 : (nI sd).toInt = sd := nI_toInt (by omega)
  have I' : lgI m (uI m3 187 53 v) := ⟨I.1.n rfl, I.2.1.i rfl, I.2.2.1, I.2.2.2⟩
  have C' : m3.1 187 53 = m.1 187 53 := C.2.2.2.1
  obtain ⟨w, f, e, g⟩ := I'
  obtain ⟨c1, c2, c3, c4, c5, c6, c7, c8, c9⟩ := C
  refine g_X12_league_362 ⟨⟨(w.t rfl (by omega) (by omega)).t rfl (by decide) (by decide), (f.i rfl).i rfl, ⟨_, rfl⟩, e, g⟩, fun q hq => ?_, fun st' dg' ln' sd' ar' fr' wp' il' sk' hq => ?_⟩
  · rw [hO] at hq; cases hq
  · rw [hO] at hq
    cases hq
    refine ⟨rfl, rfl, c2, rfl, ?_, c5, c6, c7, c8, c9⟩
    show v = _
    rw [hv, C']
theorem lhN.at {fr sd : Nat} {il : Nat → Bool} {sk : Nat → Int32} {m3 m4 : Wm} (h : lhN fr sd il sk m3) (h7 : m4.1 197 = m3.1 197) (h8 : m4.1 198 = m3.1 198) : lhN fr sd il sk m4 := by
  unfold lhN
  rw [h7, h8]
  exact h
theorem lh_copy {n st dg ln ar fr sd : Nat} {wp : Bool} {il : Nat → Bool} {sk : Nat → Int32} (hO : O = .inr (st, dg, ln, sd, ar, fr, wp, il, sk)) (h8 : sd ≤ 8) (hl : wp = true ∨ (fr = n ∧ fr < sd)) (hfr : fr ≤ sd) : ∀ (j s : Nat) (m3 : Wm), s + j = sd → fr ≤ s → lgI m m3 → lhC m n ar fr sd s (4 * s) wp il sk m3 →
    AW ad E0 μX12_league (d + 1) (lhQ m O) 250 [(0, .ref (ad 187)), (3, .int (nI sd)), (4, .int (if wp = true then 1 else 0)), (5, .int (nI ln)), (7, .int (nI s))] [] m3 := by
  intro j
  induction j with
  | zero =>
    intro s m3 hs hfs I C
    obtain rfl : s = sd := hs
    refine g_X12_league_250 ⟨fun _ => ⟨fun _ => lh_362 hO h8 I C rfl, fun c => ?_⟩, fun c => absurd ((nI_leI (by omega) (by omega)).mpr (by omega)) c⟩
    rcases hl with hw | ⟨h1, h2⟩
    · rw [if_pos hw] at c; exact absurd c (by decide)
    · refine ⟨fun q => ?_, fun _ => lh_362 hO h8 I C rfl⟩
      rw [C.2.2.1] at q
      have := (nI_leI (by omega) (by omega)).mp q
      omega
  | succ j ih =>
    intro s m3 hs hfs I C
    have hs8 : s < 8 := by omega
    refine g_X12_league_250 ⟨fun c => absurd ((nI_leI (by omega) (by omega)).mp c) (by omega), fun _ => ?_⟩
    have L : ∀ (i a : Nat) (m4 : Wm), a + i = 4 → lgI m m4 → lhC m n ar fr sd s (4 * s + a) wp il sk m4 → AW ad E0 μX12_league (d + 1) (lhQ m O) 259 [(0, .ref (ad 187)), (3, .int (nI sd)), (4, .int (if wp = true then 1 else 0)), (5, .int (nI ln)), (7, .int (nI s)), (8, .int (nI a))] [] m4 := by
      intro i
      induction i with
      | zero =>
        intro a m4 ha I4 C4
        obtain rfl : a = 4 := ha
        obtain ⟨w, f, e, g⟩ := I4
        obtain ⟨c1, c2, c3, c4, c5, c6, c7, c8, c9⟩ := C4
        have v := nat_in hs8 (show (8 : Nat) < 2147483648 by decide)
        refine g_X12_league_259 ⟨fun _ => ⟨v, v, v, v, v, ?_⟩, fun c => absurd ((le_l 4 4 rfl (by omega) (by omega)).mpr (by omega)) c⟩
        rw [nI_1, nI_clamp (by omega)]
        have e198 : vp_nar .boolean (m4.1 198 s) = if il s = true then 1 else 0 := by
          rw [c1.2 s hfs (by omega)]
          by_cases hi : il s = true
          · rw [if_pos hi]; rfl
          · rw [if_neg hi]; rfl
        refine ih (s + 1) _ (by omega) (by omega) ⟨(((w.n rfl).n rfl).n rfl).n rfl, (((f.i rfl).i rfl).i rfl).i rfl, e, g⟩ ⟨c1.at ?_ ?_, c2, c3, c4, c5, c6, c7, fun t h1 h2 => ?_, fun t ht => ?_⟩
        · exact (((uI_cell (by decide)).trans (uI_cell (by decide))).trans (uI_cell (by decide))).trans (uI_cell (by decide))
        · exact (((uI_cell (by decide)).trans (uI_cell (by decide))).trans (uI_cell (by decide))).trans (uI_cell (by decide))
        · by_cases hts : t = s
          · subst hts
            exact ⟨(u_ne (by omega)).trans ((u_ne (by omega)).trans u_eq), (u_ne (by omega)).trans u_eq, u_eq, (u_ne (by omega)).trans ((u_ne (by omega)).trans ((u_ne (by omega)).trans (u_eq.trans e198)))⟩
          · obtain ⟨d1, d2, d3, d4⟩ := c8 t h1 (by omega)
            have hn : ∀ (M : Wm) (a b : Nat) (x : Int32), (uI M a s x).1 b t = M.1 b t := fun M a b x => u_ne (fun q => hts q.2)
            refine ⟨?_, ?_, ?_, ?_⟩
            · rw [hn, hn, hn, hn]; exact d1
            · rw [hn, hn, hn, hn]; exact d2
            · rw [hn, hn, hn, hn]; exact d3
            · rw [hn, hn, hn, hn]; exact d4
        · obtain ⟨d1, d2, d3, d4⟩ := c9 t ht
          have hts : ¬ t = s := by omega
          have hn : ∀ (M : Wm) (a b : Nat) (x : Int32), (uI M a s x).1 b t = M.1 b t := fun M a b x => u_ne (fun q => hts q.2)
          refine ⟨?_, ?_, ?_, ?_⟩
          · rw [hn, hn, hn, hn]; exact d1
          · rw [hn, hn, hn, hn]; exact d2
          · rw [hn, hn, hn, hn]; exact d3
          · rw [hn, hn, hn, hn]; exact d4
      | succ i ih2 =>
        intro a m4 ha I4 C4
        obtain ⟨w, f, e, g⟩ := I4
        obtain ⟨c1, c2, c3, c4, c5, c6, c7, c8, c9⟩ := C4
        have l4 : (4 : Int32) * nI s + nI a = nI (4 * s + a) := by rw [l_mul 4 4 rfl, nI_add]
        refine g_X12_league_259 ⟨fun c => absurd ((le_l 4 4 rfl (by omega) (by omega)).mp c) (by omega), fun _ => ?_⟩
        rw [l4, nI_1, nI_clamp (by omega)]
        refine ⟨nat_in (by omega) (by decide), nat_in (by omega) (by decide), ih2 (a + 1) _ (by omega) ⟨w.n rfl, f.i rfl, e, g⟩ ⟨c1.at (uI_cell (by decide)) (uI_cell (by decide)), c2, c3, c4, c5, fun k h1 h2 => ?_, fun k hk => ?_, c8, c9⟩⟩
        · by_cases hk : k = 4 * s + a
          · subst hk
            exact u_eq.trans (c1.1 _ (by omega) (by omega))
          · exact (u_ne (fun q => hk q.2)).trans (c6 k h1 (by omega))
        · exact (u_ne (by omega)).trans (c7 k hk)
    exact L 4 0 m3 (by decide) I C
theorem lh_bad {q p : Nat} {w x1 x2 x3 x4 x5 : Int32} {ty e : Nat} {tx : Nat → Int32} {m4 : Wm} (hO : O = .inl q) (hq : q < 100) (h4 : PS 195 ty 76 e tx p w m4) (hw : w = nI q) (I : lgI m m4) (F : Fx (RS [20, 21, 22, 27]) m m4) : AW ad E0 μX12_league (d + 1) (lhQ m O) 203 [(0, .ref (ad 187)), (1, .int x1), (2, .int x2), (3, .int x3), (4, .int x4), (5, .int x5)] [] m4 := by
  have hw1 : ¬ w = -1 := fun z => m1_ne q (by omega) (z.symm.trans hw)
  have e22 : m4.1 187 22 = w := h4.2.2.2.2.1
  obtain ⟨w0, f0, e0, g0⟩ := I
  refine g_X12_league_203 ((fine_ok h4).to ?_)
  rintro _ m' ⟨eq, rfl⟩
  obtain rfl := eq.symm
  refine ⟨0, by rw [if_neg hw1], fun c => absurd rfl c, fun _ => ⟨⟨w0, f0, ⟨_, rfl⟩, e0, g0⟩, fun q' hq' => ?_, fun _ _ _ _ _ _ _ _ _ hq' => ?_⟩⟩
  · rw [hO] at hq'
    cases hq'
    exact ⟨by rw [e22, hw], F⟩
  · rw [hO] at hq'; cases hq'
section LHW
variable {ty e : Nat} {tx : Nat → Int32}
theorem flt_d {x w : Int32} {p : Nat} (h : ¬ w = -1) : (fltF x (p, w)).2 = w := by rw [flt_keep h]
theorem lh_dead184 (A : PA 195 80 ty 76 e) {q p : Nat} {w x1 x2 x3 x4 x5 : Int32} {m4 : Wm} (hO : O = .inl q) (hq : q < 100) (h4 : PS 195 ty 76 e tx p w m4) (hw : w = nI q) (I : lgI m m4) (F : Fx (RS [20, 21, 22, 27]) m m4) : AW ad E0 μX12_league (d + 1 + 1) (lhQ m O) 184 [(0, .ref (ad 187)), (1, .int x1), (2, .int x2), (3, .int x3), (4, .int x4), (5, .int x5)] [] m4 := by
  have hw1 : ¬ w = -1 := fun z => m1_ne q (by omega) (z.symm.trans hw)
  refine g_X12_league_184 ⟨fun _ => lh_bad hO hq h4 hw I F, fun _ => (fault_ok A h4).to ?_⟩
  rintro _ m5 ⟨rfl, h5, f5⟩
  rw [flt_d hw1] at h5
  exact ⟨rfl, lh_bad hO hq h5 hw (I.fx f5) (F.tr f5 (RS_sub rfl))⟩
theorem lh_dead57 (A : PA 195 80 ty 76 e) {q p : Nat} {w x1 x2 x3 x4 x5 x6 : Int32} {m4 : Wm} (hO : O = .inl q) (hq : q < 100) (h4 : PS 195 ty 76 e tx p w m4) (hw : w = nI q) (I : lgI m m4) (F : Fx (RS [20, 21, 22, 27]) m m4) : AW ad E0 μX12_league (d + 1 + 1) (lhQ m O) 57 [(0, .ref (ad 187)), (1, .int x1), (2, .int x2), (3, .int x3), (4, .int x4), (5, .int x5), (6, .int x6)] [] m4 := by
  have hw1 : ¬ w = -1 := fun z => m1_ne q (by omega) (z.symm.trans hw)
  refine g_X12_league_57 ⟨fun _ => lh_dead184 A hO hq h4 hw I F, fun _ => (fine_ok h4).to ?_⟩
  rintro _ m' ⟨eq, rfl⟩
  obtain rfl := eq.symm
  exact ⟨0, by rw [if_neg hw1], fun _ => lh_dead184 A hO hq h4 hw I F, fun c => absurd rfl c⟩
theorem pass_d {c : Int32} {p : Nat} {w : Int32} (h : ¬ w = -1) : ¬ passF tx e c (p, w) = true := fun q => h (of_decide_eq_true q).1
/-- behind a line, after a fault: ; is asked for, and not there -/
theorem lh_deadP (A : PA 195 80 ty 76 e) {q p : Nat} {w x1 x2 x3 x4 x5 : Int32} {m4 : Wm} (hO : O = .inl q) (hq : q < 100) (h4 : PS 195 ty 76 e tx p w m4) (hw : w = nI q) (I : lgI m m4) (F : Fx (RS [20, 21, 22, 27]) m m4) :
    Ct ad μX12_passes (d + 4) [.ref (ad 187), .int 59] m4 (fun r m10 => ∃ v11 : Int32, r = some (.int v11) ∧ AW ad E0 μX12_league (d + 4 + 1) (lhQ m O) 57 [(0, .ref (ad 187)), (1, .int x1), (2, .int x2), (3, .int x3), (4, .int x4), (5, .int x5), (6, .int v11)] [] m10) := by
  have hw1 : ¬ w = -1 := fun z => m1_ne q (by omega) (z.symm.trans hw)
  refine (passes_ok A h4 (by decide)).to ?_
  rintro _ m5 ⟨rfl, h5, f5⟩
  rw [if_neg (pass_d hw1)] at h5 ⊢
  exact ⟨_, rfl, lh_dead57 (d := d + 3) A hO hq h5 hw (I.fx f5) (F.tr f5 (RS_sub rfl))⟩
theorem lh_dead115 (A : PA 195 80 ty 76 e) {q p : Nat} {w x1 x2 x4 x5 : Int32} {sd : Nat} (hO : O = .inl q) (hq : q < 100) (hs : sd < 8) (hw : w = nI q) : ∀ (j a : Nat) (m4 : Wm), a + j = 4 → PS 195 ty 76 e tx p w m4 → lgI m m4 → Fx (RS [20, 21, 22, 27]) m m4 →
    AW ad E0 μX12_league (d + 4 + 1) (lhQ m O) 115 [(0, .ref (ad 187)), (1, .int x1), (2, .int x2), (3, .int (nI sd)), (4, .int x4), (5, .int x5), (7, .int (nI a))] [] m4 := by
  have hw1 : ¬ w = -1 := fun z => m1_ne q (by omega) (z.symm.trans hw)
  intro j
  induction j with
  | zero =>
    intro a m4 ha h4 I F
    refine g_X12_league_115 ⟨fun _ => (passes_ok A h4 (by decide)).to ?_, fun c => absurd ((le_l 4 4 rfl (by omega) (by omega)).mpr (by omega)) c⟩
    rintro _ m6 ⟨rfl, h6, f6⟩
    rw [if_neg (pass_d hw1)] at h6 ⊢
    obtain ⟨i1, i2, i3, i4⟩ := I.fx f6
    exact ⟨_, rfl, nat_in (by omega) (by decide), lh_deadP A hO hq (h6.u (by decide) (by decide)) hw ⟨i1.n rfl, i2.i rfl, i3, i4⟩ ((F.tr f6 (RS_sub rfl)).i rfl)⟩
  | succ j ih =>
    intro a m4 ha h4 I F
    have l4 : (4 : Int32) * nI sd + nI a = nI (4 * sd + a) := by rw [l_mul 4 4 rfl, nI_add]
    refine g_X12_league_115 ⟨fun c => absurd ((le_l 4 4 rfl (by omega) (by omega)).mp c) (by omega), fun _ => ?_⟩
    rw [l4, nI_1]
    refine ⟨fun _ => ⟨nat_in (by omega) (by decide), ?_⟩, fun _ => (digit_ok A h4 (lo := 0) (hi := 7) (by decide)).to ?_⟩
    · obtain ⟨i1, i2, i3, i4⟩ := I
      exact ih (a + 1) _ (by omega) (h4.u (by decide) (by decide)) ⟨i1.n rfl, i2.i rfl, i3, i4⟩ (F.i rfl)
    · rintro _ m6 ⟨rfl, h6, f6⟩
      have e1 : digF tx e 0 7 (p, w) = (0, (p, w)) := by unfold digF; rw [if_neg hw1]
      rw [e1] at h6 ⊢
      obtain ⟨i1, i2, i3, i4⟩ := I.fx f6
      exact ⟨_, rfl, nat_in (by omega) (by decide), ih (a + 1) _ (by omega) (h6.u (by decide) (by decide)) ⟨i1.n rfl, i2.i rfl, i3, i4⟩ ((F.tr f6 (RS_sub rfl)).i rfl)⟩
/-- what holds of the numbers read so far: sd sides (fr of them old), ar arts -/
def lhV (n a0 sd ar fr : Nat) (wp : Bool) : Prop := fr ≤ sd ∧ sd ≤ 8 ∧ 1 ≤ ar ∧ ar ≤ 4 ∧ (wp = true ∨ (fr = n ∧ ar = a0))
theorem lh_end (A : PA 195 80 ty 76 e) {n a0 st dg ln sd ar fr p : Nat} {wp : Bool} {il : Nat → Bool} {sk : Nat → Int32} {x4 : Int32} {m3 : Wm} (h : PS 195 ty 76 e tx p (-1) m3) (hO : LO tx (decide (76 < ty)) (e - p) p (st, dg, ln, sd, ar, fr, wp, il, sk) = O) (hE : lEnd st dg ar) (h59 : p < e → tx p ≠ 59) (h33 : st = 2 → p < e → tx p ≠ 33)
    (V : lhV n a0 sd ar fr wp) (hl : wp = true ∨ fr < sd) (hx : x4 = if wp = true then 1 else 0) (I : lgI m m3) (N : lhN fr sd il sk m3) (F : Fx (RS [20, 21, 22, 27]) m m3) (hn : m.1 187 1 = nI n) (ha0 : m.1 187 0 = nI a0) :
    AW ad E0 μX12_league (d + 1 + 1) (lhQ m O) 184 [(0, .ref (ad 187)), (1, .int (nI ar)), (2, .int (nI fr)), (3, .int (nI sd)), (4, .int x4), (5, .int (nI ln))] [] m3 := by
  have hpe : p ≤ e := h.2.2.2.2.2.1
  obtain ⟨A1, A2, A3, A4, A5, A6, A7, A8, A9⟩ := A
  have A : PA 195 80 ty 76 e := ⟨A1, A2, A3, A4, A5, A6, A7, A8, A9⟩
  obtain ⟨V1, V2, V3, V4, V5⟩ := V
  subst hx
  refine g_X12_league_184 ⟨fun c => ?_, fun c => ?_⟩
  · rw [h.2.1, h.2.2.2.1] at c
    have c' := (nI_leI (a := ty) (b := p) (by omega) (by omega)).mp c
    have hep : e - p = 0 := by omega
    rw [hep, LO_e ⟨decide_eq_false (by omega), hE⟩] at hO
    have hO' := hO.symm
    refine g_X12_league_203 ((fine_ok h).to ?_)
    rintro _ m' ⟨eq, rfl⟩
    obtain rfl := eq.symm
    refine ⟨1, rfl, fun _ => ⟨fun c4 => ?_, fun c4 => ?_⟩, fun q => absurd q (by decide)⟩
    · have hwp : wp = false := by
        cases wp with
        | false => rfl
        | true => exact absurd c4 (by decide)
      subst hwp
      have hfr : fr = n ∧ ar = a0 := by rcases V5 with q | q; exact absurd q (by decide); exact q
      have hlt : fr < sd := by rcases hl with q | q; exact absurd q (by decide); exact q
      refine lh_copy hO' V2 (Or.inr ⟨hfr.1, hlt⟩) V1 (sd - fr) fr m3 (by omega) (Nat.le_refl _) I ⟨N, ?_, ?_, F.at (by decide), ⟨F.at (by decide), F.at (by decide), F.at (by decide), F.at (by decide)⟩, fun k h1 h2 => absurd h2 (by omega), fun k hk => F.at (by show ¬ (([20, 21, 22, 27] : List Nat).elem 24 = true); decide), fun t h1 h2 => absurd h2 (by omega), fun t ht => ⟨F.at (by show ¬ (([20, 21, 22, 27] : List Nat).elem 24 = true); decide), F.at (by show ¬ (([20, 21, 22, 27] : List Nat).elem 24 = true); decide), F.at (by show ¬ (([20, 21, 22, 27] : List Nat).elem 24 = true); decide), F.at (by show ¬ (([20, 21, 22, 27] : List Nat).elem (rg 189 t) = true); exact (show ¬ (([20, 21, 22, 27] : List Nat).elem (rg 189 0) = true) by decide))⟩⟩
      · exact (F.at (a := 187) (k := 0) (by decide)).trans (by rw [ha0, hfr.2])
      · exact (F.at (a := 187) (k := 1) (by decide)).trans hn
    · have hwp : wp = true := by
        cases wp with
        | true => rfl
        | false => exact absurd rfl c4
      subst hwp
      obtain ⟨i1, i2, i3, i4⟩ := I
      have tar : (nI ar).toInt = ar := nI_toInt (by omega)
      refine lh_copy (n := n) hO' V2 (Or.inl rfl) V1 (sd - fr) fr _ (by omega) (Nat.le_refl _) ⟨((((i1.t rfl (by omega) (by omega)).t rfl (by decide) (by decide)).t rfl (by decide) (by decide)).n rfl).t rfl (by decide) (by decide), ((((i2.i rfl).i rfl).i rfl).i rfl).i rfl, i3, Or.inr rfl⟩ ⟨N, rfl, ?_, F.at (by decide), ⟨rfl, rfl, rfl, rfl⟩, fun k h1 h2 => absurd h2 (by omega), fun k hk => F.at (by show ¬ (([20, 21, 22, 27] : List Nat).elem 24 = true); decide), fun t h1 h2 => absurd h2 (by omega), fun t ht => ⟨F.at (by show ¬ (([20, 21, 22, 27] : List Nat).elem 24 = true); decide), F.at (by show ¬ (([20, 21, 22, 27] : List Nat).elem 24 = true); decide), F.at (by show ¬ (([20, 21, 22, 27] : List Nat).elem 24 = true); decide), F.at (by show ¬ (([20, 21, 22, 27] : List Nat).elem (rg 189 t) = true); exact (show ¬ (([20, 21, 22, 27] : List Nat).elem (rg 189 0) = true) by decide))⟩⟩
      exact (F.at (a := 187) (k := 1) (by decide)).trans hn
  · rw [h.2.1, h.2.2.2.1] at c
    have c' : p < ty := by
      refine Nat.lt_of_not_le (fun q => c ((nI_leI (a := ty) (b := p) (by omega) (by omega)).mpr q))
    have hO2 : O = .inl p := by
      by_cases hp : p < e
      · have hk : e - p = (e - p - 1) + 1 := by omega
        rw [← hO, hk, LO_f (lst_en hE (h59 hp) (fun q => h33 q hp))]
      · have hep : e - p = 0 := by omega
        have hb : decide (76 < ty) = true := decide_eq_true (by omega)
        rw [← hO, hep, LO_n (by rw [hb]; exact fun q => absurd q.1 (by decide))]
    rw [h.2.2.2.1]
    refine (fault_ok A h).to ?_
    rintro _ m5 ⟨rfl, h5, f5⟩
    refine ⟨rfl, lh_bad hO2 (by omega) h5 ?_ (I.fx f5) (F.tr f5 (RS_sub rfl))⟩
    unfold fltF
    rw [if_pos rfl]
end LHW
end LHM
end
section
/-! THE LEAGUE IS READ BY THE MODEL AS SIGN BY SIGN -/
theorem sub_add48 (c : Int32) : c - 48 + 48 = c := Int32.sub_add_cancel c 48
theorem dgi {c lo hi : Int32} {l u : Nat} (hl : lo = nI l) (hu : hi = nI u) (hl9 : l ≤ 9) (hu9 : u ≤ 9) : (48 + lo ≤ c ∧ c ≤ 48 + hi) ↔ ((l : Int) ≤ (c - 48).toInt ∧ (c - 48).toInt ≤ u) := by
  refine ⟨fun h => dig_v hl hu hl9 hu9 h.1 h.2, fun h => ?_⟩
  subst hl hu
  have z48 : (48 : Int32).toInt = 48 := rfl
  have e1 : (nI l).toInt = l := nI_toInt (by omega)
  have e2 : (nI u).toInt = u := nI_toInt (by omega)
  have b1 := ti_add (x := 48) (y := nI l) (by omega)
  have b2 := ti_add (x := 48) (y := nI u) (by omega)
  have b3 := ti_add (x := c - 48) (y := 48) (by omega)
  rw [sub_add48] at b3
  exact ⟨(fa_le _ _).mpr (by omega), (fa_le _ _).mpr (by omega)⟩
section LHL
variable {ad : Nat → Nat} {d : Nat} {m : Wm} {O : Nat ⊕ LgSt} {ty e : Nat} {tx : Nat → Int32}
theorem hr_in {p : Nat} (h : p < e) : hrF tx e p = tx p := if_pos h
theorem hr_out {p : Nat} (h : ¬ p < e) : hrF tx e p = -1 := if_neg h
theorem pass_iff {c : Int32} {p : Nat} (hc : c ≠ -1) : passF tx e c (p, -1) = true ↔ (p < e ∧ tx p = c) := by
  constructor
  · intro h
    have h1 := pass_lt h hc
    exact ⟨h1, (hr_in h1).symm.trans (of_decide_eq_true h).2⟩
  · intro h
    exact decide_eq_true ⟨rfl, (hr_in h.1).trans h.2⟩
theorem ep_s {p : Nat} (h : p < e) : e - p = (e - (p + 1)) + 1 := by omega
theorem lh_loop (A : PA 195 80 ty 76 e) {n a0 : Nat} (hn : m.1 187 1 = nI n) (ha0 : m.1 187 0 = nI a0) : ∀ (k dg ln sd ar fr p : Nat) (wp : Bool) (il : Nat → Bool) (sk : Nat → Int32) (x4 : Int32) (m3 : Wm), e - p < k → PS 195 ty 76 e tx p (-1) m3 →
    LO tx (decide (76 < ty)) (e - p) p (0, dg, ln, sd, ar, fr, wp, il, sk) = O → lhV n a0 sd ar fr wp → (x4 = if wp = true then 1 else 0) → lgI m m3 → lhN fr sd il sk m3 → Fx (RS [20, 21, 22, 27]) m m3 →
    AW ad E0 μX12_league (d + 4 + 1) (lhQ m O) 57 [(0, .ref (ad 187)), (1, .int (nI ar)), (2, .int (nI fr)), (3, .int (nI sd)), (4, .int x4), (5, .int (nI ln)), (6, .int 1)] [] m3 := by
  intro k
  induction k with
  | zero => intros; omega
  | succ k ih =>
    intro dg ln sd ar fr p wp il sk x4 m3 hk h hO V hx I N F
    have e80 : e ≤ 80 := by have := A.2.2.2.1; have := A.2.2.2.2.1; omega
    have hpe : p ≤ e := h.2.2.2.2.2.1
    -- behind a line
    have nx : ∀ (st dg ln sd ar fr p' : Nat) (wp : Bool) (il : Nat → Bool) (sk : Nat → Int32) (x4 : Int32) (m4 : Wm), p ≤ p' → PS 195 ty 76 e tx p' (-1) m4 → LO tx (decide (76 < ty)) (e - p') p' (st, dg, ln, sd, ar, fr, wp, il, sk) = O → lEnd st dg ar → (st = 2 → p' < e → tx p' ≠ 33) →
        lhV n a0 sd ar fr wp → (wp = true ∨ fr < sd) → (x4 = if wp = true then 1 else 0) → lgI m m4 → lhN fr sd il sk m4 → Fx (RS [20, 21, 22, 27]) m m4 →
        Ct ad μX12_passes (d + 4) [.ref (ad 187), .int 59] m4 (fun r m10 => ∃ v11 : Int32, r = some (.int v11) ∧ AW ad E0 μX12_league (d + 4 + 1) (lhQ m O) 57 [(0, .ref (ad 187)), (1, .int (nI ar)), (2, .int (nI fr)), (3, .int (nI sd)), (4, .int x4), (5, .int (nI ln)), (6, .int v11)] [] m10) := by
      intro st dg ln sd ar fr p' wp il sk x4 m4 hp h4 hO4 hE h33 V4 hl hx4 I4 N4 F4
      refine (passes_ok A h4 (by decide)).to ?_
      rintro _ m5 ⟨rfl, h5, f5⟩
      have I5 := I4.fx f5
      have F5 : Fx (RS [20, 21, 22, 27]) m m5 := F4.tr f5 (RS_sub rfl)
      have N5 : lhN fr sd il sk m5 := N4.at (funext fun k => f5.at (by show ¬ (([22] : List Nat).elem 27 = true); decide)) (funext fun k => f5.at (by show ¬ (([22] : List Nat).elem 27 = true); decide))
      by_cases h59 : passF tx e 59 (p', -1) = true
      · rw [if_pos h59] at h5 ⊢
        obtain ⟨q1, q2⟩ := (pass_iff (by decide)).mp h59
        rw [ep_s q1, LO_s (by rw [q2]; exact lst_c hE)] at hO4
        exact ⟨1, rfl, ih dg ln sd ar fr (p' + 1) wp il sk x4 m5 (by omega) h5 hO4 V4 hx4 I5 N5 F5⟩
      · rw [if_neg h59] at h5 ⊢
        have q1 : p' < e → tx p' ≠ 59 := fun q z => h59 ((pass_iff (by decide)).mpr ⟨q, z⟩)
        exact ⟨0, rfl, g_X12_league_57 ⟨fun _ => lh_end (d := d + 3) A h5 hO4 hE q1 h33 V4 hl hx4 I5 N5 F5 hn ha0, fun c => absurd rfl c⟩⟩
    refine g_X12_league_57 ⟨fun c => absurd c (by decide), fun _ => (fine_ok h).to ?_⟩
    rintro _ m' ⟨eq, rfl⟩
    obtain rfl := eq.symm
    refine ⟨1, rfl, fun c => absurd c (by decide), fun _ => (passes_ok A h (by decide)).to ?_⟩
    rintro _ m4 ⟨rfl, h4, f4⟩
    have I4 := I.fx f4
    have F4 : Fx (RS [20, 21, 22, 27]) m m4 := F.tr f4 (RS_sub rfl)
    have N4 : lhN fr sd il sk m4 := N.at (funext fun k => f4.at (by show ¬ (([22] : List Nat).elem 27 = true); decide)) (funext fun k => f4.at (by show ¬ (([22] : List Nat).elem 27 = true); decide))
    obtain ⟨V1, V2, V3, V4, V5⟩ := V
    refine ⟨_, rfl, fun c => ?_, fun c => ?_⟩
    · -- a side
      have hnp : ¬ passF tx e 119 (p, -1) = true := (bz_if rfl).1 c
      rw [if_neg hnp] at h4
      have n119 : p < e → tx p ≠ 119 := fun q z => hnp ((pass_iff (by decide)).mpr ⟨q, z⟩)
      refine ⟨fun c8 => ?_, fun c8 => ?_⟩
      · have sd7 : sd < 8 := by
          have : sd ≠ 8 := fun q => c8 (by rw [q]; rfl)
          omega
        rw [LO_open (fun hk0 => n119 (by omega)) sd7 V3] at hO
        have L : ∀ (j a p' : Nat) (sk' : Nat → Int32) (m5 : Wm), a + j = 4 → p ≤ p' → PS 195 ty 76 e tx p' (-1) m5 → LO tx (decide (76 < ty)) (e - p') p' (2, min a ar, ln + 1, sd + 1, ar, fr, wp, updB il sd false, sk') = O →
            (∀ k, 4 * fr ≤ k → k < 4 * sd + a → m5.1 197 k = sk' k) → (∀ k, 4 * sd + a ≤ k → k < 4 * sd + 4 → sk' k = 0) → (∀ s, fr ≤ s → s < sd → m5.1 198 s = if il s = true then 1 else 0) → lgI m m5 → Fx (RS [20, 21, 22, 27]) m m5 →
            AW ad E0 μX12_league (d + 4 + 1) (lhQ m O) 115 [(0, .ref (ad 187)), (1, .int (nI ar)), (2, .int (nI fr)), (3, .int (nI sd)), (4, .int x4), (5, .int (nI ln)), (7, .int (nI a))] [] m5 := by
          intro j
          induction j with
          | zero =>
            intro a p' sk' m5 ha hp h5 hO5 r1 r2 r3 I5 F5
            obtain rfl : a = 4 := ha
            have emin : min 4 ar = ar := by omega
            rw [emin] at hO5
            refine g_X12_league_115 ⟨fun _ => (passes_ok A h5 (by decide)).to ?_, fun q => absurd ((le_l 4 4 rfl (by omega) (by omega)).mpr (by omega)) q⟩
            rintro _ m6 ⟨rfl, h6, f6⟩
            have I6 := I5.fx f6
            have F6 : Fx (RS [20, 21, 22, 27]) m m6 := F5.tr f6 (RS_sub rfl)
            have g197 : ∀ k, m6.1 197 k = m5.1 197 k := fun k => f6.at (by show ¬ (([22] : List Nat).elem 27 = true); decide)
            have g198 : ∀ k, m6.1 198 k = m5.1 198 k := fun k => f6.at (by show ¬ (([22] : List Nat).elem 27 = true); decide)
            refine ⟨_, rfl, nat_in (by omega) (by decide), ?_⟩
            rw [nI_1 sd, nI_1 ln, nI_clamp (by omega)]
            obtain ⟨i1, i2, i3, i4⟩ := I6
            have V' : lhV n a0 (sd + 1) ar fr wp := ⟨by omega, by omega, V3, V4, V5⟩
            by_cases h33 : passF tx e 33 (p', -1) = true
            · rw [if_pos h33] at h6 ⊢
              obtain ⟨q1, q2⟩ := (pass_iff (by decide)).mp h33
              rw [ep_s q1, LO_s (by rw [q2]; exact lst_i)] at hO5
              refine nx 3 ar (ln + 1) (sd + 1) ar fr (p' + 1) wp _ sk' x4 _ (by omega) (h6.u (by decide) (by decide)) hO5 (Or.inl rfl) (fun q => absurd q (by decide)) V' (Or.inr (by omega)) hx ⟨i1.n rfl, i2.i rfl, i3, i4⟩ ⟨fun k h1 h2 => ?_, fun s h1 h2 => ?_⟩ (F6.i rfl)
              · exact (u_ne (by omega)).trans ((g197 k).trans (r1 k h1 (by omega)))
              · by_cases hs : s = sd
                · subst hs
                  refine u_eq.trans ?_
                  rw [if_pos (by simp [updB])]
                  rfl
                · refine (u_ne (fun q => hs q.2)).trans ((g198 s).trans ((r3 s h1 (by omega)).trans ?_))
                  have e1 : updB (updB il sd false) (sd + 1 - 1) true s = il s := by simp [updB, hs]
                  rw [e1]
            · rw [if_neg h33] at h6 ⊢
              refine nx 2 ar (ln + 1) (sd + 1) ar fr p' wp _ sk' x4 _ hp (h6.u (by decide) (by decide)) hO5 (Or.inr ⟨rfl, rfl⟩) (fun _ q z => h33 ((pass_iff (by decide)).mpr ⟨q, z⟩)) V' (Or.inr (by omega)) hx ⟨i1.n rfl, i2.i rfl, i3, i4⟩ ⟨fun k h1 h2 => ?_, fun s h1 h2 => ?_⟩ (F6.i rfl)
              · exact (u_ne (by omega)).trans ((g197 k).trans (r1 k h1 (by omega)))
              · by_cases hs : s = sd
                · subst hs
                  refine u_eq.trans ?_
                  rw [if_neg (by simp [updB])]
                  rfl
                · refine (u_ne (fun q => hs q.2)).trans ((g198 s).trans ((r3 s h1 (by omega)).trans ?_))
                  have e1 : updB il sd false s = il s := by simp [updB, hs]
                  rw [e1]
          | succ j ih2 =>
            intro a p' sk' m5 ha hp h5 hO5 r1 r2 r3 I5 F5
            have l4 : (4 : Int32) * nI sd + nI a = nI (4 * sd + a) := by rw [l_mul 4 4 rfl, nI_add]
            refine g_X12_league_115 ⟨fun q => absurd ((le_l 4 4 rfl (by omega) (by omega)).mp q) (by omega), fun _ => ?_⟩
            rw [l4, nI_1 a, nI_clamp (by omega)]
            refine ⟨fun ca => ⟨nat_in (by omega) (by decide), ?_⟩, fun ca => (digit_ok A h5 (lo := 0) (hi := 7) (by decide)).to ?_⟩
            · have ha' : ar ≤ a := (nI_leI (by omega) (by omega)).mp ca
              obtain ⟨i1, i2, i3, i4⟩ := I5
              refine ih2 (a + 1) p' sk' _ (by omega) hp (h5.u (by decide) (by decide)) ?_ (fun k h1 h2 => ?_) (fun k h1 h2 => r2 k (by omega) h2) (fun s h1 h2 => (u_ne (by omega)).trans (r3 s h1 h2)) ⟨i1.n rfl, i2.i rfl, i3, i4⟩ (F5.i rfl)
              · rw [show min (a + 1) ar = min a ar by omega]; exact hO5
              · by_cases hk' : k = 4 * sd + a
                · subst hk'
                  exact u_eq.trans (r2 _ (by omega) (by omega)).symm
                · exact (u_ne (fun q => hk' q.2)).trans (r1 k h1 (by omega))
            · have ha' : a < ar := Nat.lt_of_not_le (fun q => ca ((nI_leI (by omega) (by omega)).mpr q))
              rw [show min a ar = a by omega] at hO5
              rintro _ m6 ⟨rfl, h6, f6⟩
              have I6 := I5.fx f6
              have F6 : Fx (RS [20, 21, 22, 27]) m m6 := F5.tr f6 (RS_sub rfl)
              have g197 : ∀ k, m6.1 197 k = m5.1 197 k := fun k => f6.at (by show ¬ (([22] : List Nat).elem 27 = true); decide)
              have g198 : ∀ k, m6.1 198 k = m5.1 198 k := fun k => f6.at (by show ¬ (([22] : List Nat).elem 27 = true); decide)
              obtain ⟨i1, i2, i3, i4⟩ := I6
              have hp'e : p' ≤ e := h5.2.2.2.2.2.1
              by_cases hg : p' < e ∧ 0 ≤ (tx p' - 48).toInt ∧ (tx p' - 48).toInt ≤ 7
              · obtain ⟨hlt, hg1, hg2⟩ := hg
                have e1 : digF tx e 0 7 (p', -1) = (tx p' - 48, (p' + 1, -1)) := by
                  unfold digF
                  rw [if_pos rfl, hr_in hlt, if_pos ((dgi (lo := 0) (hi := 7) (l := 0) (u := 7) rfl rfl (by decide) (by decide)).mpr ⟨hg1, hg2⟩)]
                rw [e1] at h6 ⊢
                rw [ep_s hlt, LO_s (lst_d ⟨hg1, hg2⟩ ha')] at hO5
                refine ⟨_, rfl, nat_in (by omega) (by decide), ih2 (a + 1) (p' + 1) _ _ (by omega) (by omega) (h6.u (by decide) (by decide)) (by rw [show min (a + 1) ar = a + 1 by omega]; exact hO5) (fun k h1 h2 => ?_) (fun k h1 h2 => ?_) (fun s h1 h2 => (u_ne (by omega)).trans ((g198 s).trans (r3 s h1 h2))) ⟨i1.n rfl, i2.i rfl, i3, i4⟩ (F6.i rfl)⟩
                · show _ = (if k = 4 * (sd + 1 - 1) + a then tx p' - 48 else sk' k)
                  rw [Nat.add_sub_cancel]
                  by_cases hk' : k = 4 * sd + a
                  · subst hk'
                    rw [if_pos rfl]
                    exact u_eq
                  · rw [if_neg hk']
                    exact (u_ne (fun q => hk' q.2)).trans ((g197 k).trans (r1 k h1 (by omega)))
                · show (if k = 4 * (sd + 1 - 1) + a then tx p' - 48 else sk' k) = 0
                  rw [Nat.add_sub_cancel, if_neg (by omega)]
                  exact r2 k (by omega) h2
              · have e1 : digF tx e 0 7 (p', -1) = (0, (p', nI p')) := by
                  unfold digF
                  rw [if_pos rfl]
                  rw [if_neg (fun q => hg (by
                    by_cases hlt : p' < e
                    · rw [hr_in hlt] at q
                      exact ⟨hlt, (dgi (lo := 0) (hi := 7) (l := 0) (u := 7) rfl rfl (by decide) (by decide)).mp q⟩
                    · rw [hr_out hlt] at q
                      exact absurd q.1 (by decide)))]
                  unfold fltF
                  rw [if_pos rfl]
                rw [e1] at h6 ⊢
                have hO6 : O = .inl p' := by
                  by_cases hlt : p' < e
                  · rw [← hO5, ep_s hlt, LO_f (lst_dn (fun q => hg ⟨hlt, q⟩) ha')]
                  · rw [← hO5, show e - p' = 0 by omega, LO_n (fun q => by have := q.2; omega)]
                refine ⟨_, rfl, nat_in (by omega) (by decide), lh_dead115 A hO6 (by omega) sd7 rfl j (a + 1) _ (by omega) (h6.u (by decide) (by decide)) ⟨i1.n rfl, i2.i rfl, i3, i4⟩ (F6.i rfl)⟩
        refine L 4 0 p _ m4 (by decide) (Nat.le_refl _) h4 (by rw [show min 0 ar = 0 by omega]; exact hO) (fun k h1 h2 => ?_) (fun k h1 h2 => ?_) N4.2 I4 F4
        · rw [N4.1 k h1 (by omega)]
          show _ = (if 4 * sd ≤ k ∧ k < 4 * sd + 4 then 0 else sk k)
          rw [if_neg (by omega)]
        · show (if 4 * sd ≤ k ∧ k < 4 * sd + 4 then 0 else sk k) = 0
          rw [if_pos (by omega)]
      · have sd8 : sd = 8 := by
          have := (nI_eq (a := sd) (b := 8) (by omega) (by decide)).mp c8
          exact this
        have hO6 : O = .inl p := by
          by_cases hlt : p < e
          · rw [← hO, ep_s hlt, LO_f (lst_8 (n119 hlt) (by omega))]
          · rw [← hO, show e - p = 0 by omega, LO_n (fun q => by have := q.2; omega)]
        rw [h4.2.2.2.1]
        refine (fault_ok A h4).to ?_
        rintro _ m5 ⟨rfl, h5, f5⟩
        refine ⟨rfl, lh_deadP A hO6 (by omega) h5 ?_ (I4.fx f5) (F4.tr f5 (RS_sub rfl))⟩
        unfold fltF
        rw [if_pos rfl]
    · -- w
      have hy : passF tx e 119 (p, -1) = true := (bz_if rfl).2 c
      rw [if_pos hy] at h4
      obtain ⟨q1, q2⟩ := (pass_iff (by decide)).mp hy
      rw [ep_s q1, LO_s (by rw [q2]; exact lst_w)] at hO
      refine (digit_ok A h4 (lo := 1) (hi := 4) (by decide)).to ?_
      rintro _ m6 ⟨rfl, h6, f6⟩
      have I6 := I4.fx f6
      have F6 : Fx (RS [20, 21, 22, 27]) m m6 := F4.tr f6 (RS_sub rfl)
      by_cases hg : p + 1 < e ∧ 1 ≤ (tx (p + 1) - 48).toInt ∧ (tx (p + 1) - 48).toInt ≤ 4
      · obtain ⟨hlt, hg1, hg2⟩ := hg
        have e1 : digF tx e 1 4 (p + 1, -1) = (tx (p + 1) - 48, (p + 1 + 1, -1)) := by
          unfold digF
          rw [if_pos rfl, hr_in hlt, if_pos ((dgi (lo := 1) (hi := 4) (l := 1) (u := 4) rfl rfl (by decide) (by decide)).mpr ⟨hg1, hg2⟩)]
        rw [e1] at h6 ⊢
        obtain ⟨j, hj, ej⟩ := zn_of (x := tx (p + 1) - 48) (by omega)
        have tj : (tx (p + 1) - 48).toInt = j := by rw [ej, nI_toInt hj]
        have cj : (tx (p + 1) - 48).toNatClampNeg = j := by rw [ej, nI_clamp hj]
        rw [ep_s hlt, LO_s (lst_a ⟨hg1, hg2⟩), cj] at hO
        rw [ej, nI_1 ln]
        exact ⟨_, rfl, nx 3 dg (ln + 1) 0 j 0 (p + 1 + 1) true _ _ 1 m6 (by omega) h6 hO (Or.inl rfl) (fun q => absurd q (by decide)) ⟨by decide, by decide, by omega, by omega, Or.inl rfl⟩ (Or.inl rfl) rfl I6 ⟨fun k h1 h2 => absurd h2 (by omega), fun s h1 h2 => absurd h2 (by omega)⟩ F6⟩
      · have e1 : digF tx e 1 4 (p + 1, -1) = (0, (p + 1, nI (p + 1))) := by
          unfold digF
          rw [if_pos rfl]
          rw [if_neg (fun q => hg (by
            by_cases hlt : p + 1 < e
            · rw [hr_in hlt] at q
              exact ⟨hlt, (dgi (lo := 1) (hi := 4) (l := 1) (u := 4) rfl rfl (by decide) (by decide)).mp q⟩
            · rw [hr_out hlt] at q
              exact absurd q.1 (by decide)))]
          unfold fltF
          rw [if_pos rfl]
        rw [e1] at h6 ⊢
        have hO6 : O = .inl (p + 1) := by
          by_cases hlt : p + 1 < e
          · rw [← hO, ep_s hlt, LO_f (lst_an (fun q => hg ⟨hlt, q⟩))]
          · rw [← hO, show e - (p + 1) = 0 by omega, LO_n (fun q => by have := q.2; omega)]
        exact ⟨_, rfl, lh_deadP A hO6 (by omega) h6 rfl I6 F6⟩
/-- the model's league(), of a text that is not empty -/
theorem e_leagueM {n a0 t : Nat} (w : WT m) (hn : m.1 187 1 = nI n) (hn8 : n ≤ 8) (ha0 : m.1 187 0 = nI a0) (h1 : 1 ≤ a0) (h4 : a0 ≤ 4) (ht : m.1 187 14 = nI t) (ht0 : t ≠ 0) (ht80 : t ≤ 80) (il : Nat → Bool) (sk : Nat → Int32) :
    Ct ad μX12_league (d + 5) [.ref (ad 187)] m (lhQ m (LO (m.1 195) (decide (76 < t)) (minT t 76) 0 (0, 0, 0, n, a0, n, false, il, sk))) := by
  have w0 : WT (uI m 187 17 0) := w.n rfl
  have A := pa_text (n := t) (t := 76) (by omega) (by decide)
  have he80 : minT t 76 ≤ 80 := by unfold minT; split <;> omega
  refine v_X12_league (d := d + 4) ((begin_ok (na := 80) rfl).to ?_)
  rintro _ m1 ⟨rfl, e1⟩
  have e1' : m1 = bgM (uI m 187 17 0) 195 (nI t) (nI 76) := by rw [e1]; show _ = bgM _ _ (nI t) _; rw [← ht]; rfl
  subst e1'
  clear e1
  have f1 : Fx (RS [22]) (uI m 187 17 0) (bgM (uI m 187 17 0) 195 (nI t) (nI 76)) := bg_fx
  have P1 : PS 195 t 76 (minT t 76) ((uI m 187 17 0).1 195) 0 (-1) (bgM (uI m 187 17 0) 195 (nI t) (nI 76)) := bg_ps he80 (by decide)
  have w1 := w0.fx f1
  have F1 : Fx (RS [20, 21, 22, 27]) m (bgM (uI m 187 17 0) 195 (nI t) (nI 76)) := ((Fx.rf (S := RS [20, 21, 22, 27]) (m := m)).i (a := 187) (k := 17) (v := 0) rfl).tr f1 (RS_sub rfl)
  generalize bgM (uI m 187 17 0) 195 (nI t) (nI 76) = mb at f1 P1 w1 F1 ⊢
  have w2 : WT (uI mb 187 14 0) := w1.t rfl (by decide) (by decide)
  have P2 : PS 195 t 76 (minT t 76) (m.1 195) 0 (-1) (uI mb 187 14 0) := by
    obtain ⟨b1, b2, b3, b4, b5, b6, b7⟩ := P1
    exact ⟨b1, b2, b3, b4, b5, b6, fun k hk => b7 k hk⟩
  have F2 : Fx (RS [20, 21, 22, 27]) m (uI mb 187 14 0) := F1.i rfl
  have I2 : lgI m (uI mb 187 14 0) := ⟨w2, (Fx.rf (S := RS [20, 21, 22, 23, 24, 25, 27, 29, 39, 45, 46, 52])).tr F2 (RS_sub rfl), rfl, Or.inl ⟨F1.at (a := 187) (k := 10) (by decide), F1.at (a := 187) (k := 11) (by decide)⟩⟩
  have h01 : (uI mb 187 14 0).1 187 1 = nI n := (F2.at (a := 187) (k := 1) (by decide)).trans hn
  have h00 : (uI mb 187 14 0).1 187 0 = nI a0 := (F2.at (a := 187) (k := 0) (by decide)).trans ha0
  have h19 : (uI mb 187 14 0).1 187 19 = nI t := P2.2.1
  generalize uI mb 187 14 0 = mc at w2 P2 F2 I2 h01 h00 h19 ⊢
  refine ⟨rfl, fun _ => ?_, fun c => ?_⟩
  · rw [h01, h00]
    exact lh_loop A hn ha0 81 0 0 n a0 n 0 false il sk 0 mc (by omega) P2 rfl ⟨Nat.le_refl _, hn8, h1, h4, Or.inr ⟨rfl, rfl⟩⟩ rfl I2 ⟨fun k h1 h2 => absurd h2 (by omega), fun s h1 h2 => absurd h2 (by omega)⟩ F2
  · rw [h19] at c
    exact absurd ((nI_eq (a := t) (b := 0) (by omega) (by decide)).mp c) ht0
end LHL
end
