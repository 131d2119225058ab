/-! THE TABLE (model): each side is told once, for POWER is a number of the league alone -/
section TB
variable {ad : Nat → Nat} {m : Wm}
def ahB (p w : Nat → Int32) (a b : Nat) : Bool := if p a = p b then (if w a = w b then decide (a < b) else decide ((w b).toInt < (w a).toInt)) else decide ((p b).toInt < (p a).toInt)
theorem isAhead_ok {d a b : Nat} (w : WT m) (ha : a < 8) (hb : b < 8) : Ct ad μX12_isAhead (d + 169) [.ref (ad 187), .int (nI a), .int (nI b)] m (fun r m' => WT m' ∧ Fx (RS [22, 28]) m m' ∧ r = some (.int (if ahB (m.1 190) (pwM m) a b then 1 else 0))) := by
  refine v_X12_isAhead ?_
  rw [nI_clamp (by omega), nI_clamp (by omega)]
  refine ⟨nat_in ha (by decide), nat_in hb (by decide), fun e => ?_, fun e => ⟨nat_in ha (by decide), nat_in hb (by decide), fun c => ?_, fun c => ?_⟩⟩
  · refine (power_ok w ha).to ?_
    rintro _ m1 ⟨w1, f1, rfl⟩
    refine ⟨_, rfl, (power_ok w1 hb).to ?_⟩
    rintro _ m2 ⟨w2, f2, rfl⟩
    have e2 : pwM m1 b = pwM m b := by
      have e1 := fx_cell (a := 200) (ρ := 48) f1 (fun _ => rfl) rfl
      have e2 := fx_cell (a := 188) (ρ := 24) f1 (fun _ => rfl) rfl
      have e3 := fx_cell (a := 190) (ρ := 24) f1 (fun _ => rfl) rfl
      have e4 := fx_cell (a := 191) (ρ := 24) f1 (fun _ => rfl) rfl
      have e5 := f1.at (a := 187) (k := 27) (by decide)
      have e6 := f1.at (a := 187) (k := 0) (by decide)
      unfold pwM
      rw [e1, e2, e3, e4, e5, e6]
    rw [e2]
    have f2' := f1.tr f2 (RS_sub rfl)
    refine ⟨_, rfl, fun q => ⟨fun c => ?_, fun c => ?_⟩, fun q => ⟨fun c => ?_, fun c => ?_⟩⟩
    · refine ⟨w2, f2', ?_⟩
      unfold ahB
      rw [if_pos e, if_pos q, decide_eq_false (by have := (nI_leI (by omega) (by omega)).mp c; omega)]
      rfl
    · refine ⟨w2, f2', ?_⟩
      unfold ahB
      rw [if_pos e, if_pos q, decide_eq_true (by have : ¬ b ≤ a := fun q => c ((nI_leI (by omega) (by omega)).mpr q); omega)]
      rfl
    · refine ⟨w2, f2', ?_⟩
      have c' := z_le c
      unfold ahB
      rw [if_pos e, if_neg q, decide_eq_false (by omega)]
      rfl
    · refine ⟨w2, f2', ?_⟩
      have c' := z_nle c
      unfold ahB
      rw [if_pos e, if_neg q, decide_eq_true (by omega)]
      rfl
  · refine ⟨w, Fx.rf, ?_⟩
    have c' := z_le c
    unfold ahB
    rw [if_neg e, decide_eq_false (by omega)]
    rfl
  · refine ⟨w, Fx.rf, ?_⟩
    have c' := z_nle c
    unfold ahB
    rw [if_neg e, decide_eq_true (by omega)]
    rfl
def cnB (f : Nat → Bool) : Nat → Nat
  | 0 => 0
  | n + 1 => cnB f n + (if f n then 1 else 0)
theorem cnB_le {f : Nat → Bool} : ∀ n, cnB f n ≤ n := by
  intro n
  induction n with
  | zero => exact Nat.le_refl _
  | succ n ih =>
    show cnB f n + _ ≤ n + 1
    split <;> omega
theorem cnB_mono {f : Nat → Bool} {a : Nat} : ∀ n, a ≤ n → cnB f a ≤ cnB f n := by
  intro n
  induction n with
  | zero => intro h; obtain rfl : a = 0 := by omega
            exact Nat.le_refl _
  | succ n ih =>
    intro h
    by_cases e : a = n + 1
    · rw [e]; exact Nat.le_refl _
    · have := ih (by omega)
      show _ ≤ cnB f n + _
      omega
theorem cnB_add {c : Nat → Nat} {p : Nat} : ∀ n, cnB (fun t => decide (c t < p)) n + cnB (fun t => decide (c t = p)) n = cnB (fun t => decide (c t < p + 1)) n := by
  intro n
  induction n with
  | zero => rfl
  | succ n ih =>
    show cnB (fun t => decide (c t < p)) n + (if decide (c n < p) = true then 1 else 0) + (cnB (fun t => decide (c t = p)) n + (if decide (c n = p) = true then 1 else 0)) = cnB (fun t => decide (c t < p + 1)) n + (if decide (c n < p + 1) = true then 1 else 0)
    simp only [decide_eq_true_eq]
    split <;> split <;> split <;> omega
theorem cnB_0 {c : Nat → Nat} : ∀ n, cnB (fun t => decide (c t < 0)) n = 0 := by
  intro n
  induction n with
  | zero => rfl
  | succ n ih =>
    show cnB (fun t => decide (c t < 0)) n + (if decide (c n < 0) = true then 1 else 0) = 0
    rw [ih, decide_eq_false (by omega)]
    rfl
def tbR (c : Nat → Nat) (n p s : Nat) : Nat := cnB (fun t => decide (c t < p)) n + cnB (fun t => decide (c t = p)) s
theorem tbR_le {c : Nat → Nat} {n p s : Nat} (h : s ≤ n) : tbR c n p s ≤ n := by
  have h1 := cnB_add (c := c) (p := p) n
  have h2 := cnB_mono (f := fun t => decide (c t = p)) n h
  have h3 := cnB_le (f := fun t => decide (c t < p + 1)) n
  unfold tbR
  omega
theorem tbR_nx {c : Nat → Nat} {n p : Nat} : tbR c n p n = tbR c n (p + 1) 0 := cnB_add n
def tbQ (m : Wm) (r : Option Value) (m' : Wm) : Prop := WT m' ∧ Fx (RS [20, 22, 26, 28]) m m' ∧ ∃ v : Int32, r = some (.int v) ∧ v.toInt = (m.1 187 1).toInt
theorem s_X12_table {d : Nat} (w : WT m) : Ct ad μX12_table (d + 170) [.ref (ad 187)] m (fun r m' => WT m' ∧ Fx (RS [20, 22, 26, 28]) m m' ∧ ∃ v : Int32, r = some (.int v) ∧ v.toInt = (m.1 187 1).toInt) := by
  obtain ⟨n, en, -, n1, n2, n3⟩ := w.nat (a := 187) (k := 1) rfl (by decide)
  have hn8 : n ≤ 8 := by omega
  let c : Nat → Nat := fun s => cnB (fun o => (!decide (o = s)) && ahB (m.1 190) (pwM m) o s) n
  have cd : ∀ s, c s = cnB (fun o => (!decide (o = s)) && ahB (m.1 190) (pwM m) o s) n := fun _ => rfl
  have sid : ∀ m1, Fx (RS [20, 22, 26, 28]) m m1 → m1.1 187 1 = nI n := fun m1 f1 => (f1.at (by decide)).trans en
  have nle : ∀ m1, Fx (RS [20, 22, 26, 28]) m m1 → ∀ o, o < n → ¬ m1.1 187 1 ≤ nI o := fun m1 f1 o ho q => by
    rw [sid m1 f1] at q
    have := (nI_leI (by omega) (by omega)).mp q
    omega
  have pww : ∀ m1, Fx (RS [20, 22, 26, 28]) m m1 → pwM m1 = pwM m ∧ m1.1 190 = m.1 190 := by
    intro m1 f1
    have e1 := fx_cell (a := 200) (ρ := 48) f1 (fun _ => rfl) rfl
    have e2 := fx_cell (a := 188) (ρ := 24) f1 (fun _ => rfl) rfl
    have e3 := fx_cell (a := 190) (ρ := 24) f1 (fun _ => rfl) rfl
    have e4 := fx_cell (a := 191) (ρ := 24) f1 (fun _ => rfl) rfl
    have e5 := f1.at (a := 187) (k := 27) (by decide)
    have e6 := f1.at (a := 187) (k := 0) (by decide)
    refine ⟨?_, e3⟩
    funext s
    unfold pwM
    rw [e1, e2, e3, e4, e5, e6]
  have L35 : ∀ (p s : Nat), p < 8 → s < n → (∀ m2, WT m2 → Fx (RS [20, 22, 26, 28]) m m2 → (m2.1 187 16).toInt = (tbR c n p (s + 1) : Int) → AW ad E0 μX12_table (d + 170) (tbQ m) 22 [(0, .ref (ad 187)), (1, .int (nI p)), (2, .int (nI (s + 1)))] [] m2) →
      ∀ j o m1, o + j = n → WT m1 → Fx (RS [20, 22, 26, 28]) m m1 → (m1.1 187 16).toInt = (tbR c n p s : Int) → AW ad E0 μX12_table (d + 170) (tbQ m) 35 [(0, .ref (ad 187)), (1, .int (nI p)), (2, .int (nI s)), (3, .int (nI (cnB (fun o => (!decide (o = s)) && ahB (m.1 190) (pwM m) o s) o))), (4, .int (nI o))] [] m1 := by
    intro p s hp hs K j
    induction j with
    | zero =>
      intro o m1 ho w1 f1 h16
      obtain rfl : o = n := by omega
      have hc := cnB_le (f := fun o => (!decide (o = s)) && ahB (m.1 190) (pwM m) o s) o
      have hR := tbR_le (c := c) (n := o) (p := p) (s := s) (by omega)
      refine g_X12_table_35 ⟨fun _ => ⟨fun e => ?_, fun e => (s_X12_tell w1 (by omega)).to ?_⟩, fun q => absurd (by rw [sid m1 f1]; exact (nI_leI (by omega) (by omega)).mpr (Nat.le_refl _)) q⟩
      · rw [nI_1]
        refine K m1 w1 f1 ?_
        rw [h16]
        have : c s ≠ p := fun q => e (by rw [← cd, q])
        show ((tbR c o p s : Nat) : Int) = ((cnB _ o + (cnB (fun t => decide (c t = p)) s + (if decide (c s = p) = true then 1 else 0)) : Nat) : Int)
        rw [decide_eq_false this]
        rfl
      · rintro _ m2 ⟨w2, f2, rfl, p2⟩
        refine ⟨rfl, ?_⟩
        rw [nI_1]
        refine K m2 w2 (f1.tr f2 (RS_sub rfl)) ?_
        rw [p2, h16]
        have : c s = p := by
          have h1 := congrArg Int32.toInt e
          rw [nI_toInt (by omega), nI_toInt (by omega)] at h1
          rw [cd]
          omega
        show ((tbR c o p s : Nat) : Int) + 1 = ((cnB _ o + (cnB (fun t => decide (c t = p)) s + (if decide (c s = p) = true then 1 else 0)) : Nat) : Int)
        rw [decide_eq_true this]
        show ((cnB _ o + cnB _ s : Nat) : Int) + 1 = ((cnB _ o + (cnB _ s + 1) : Nat) : Int)
        omega
    | succ j ih =>
      intro o m1 ho w1 f1 h16
      have st : ∀ b : Bool, ((!decide (o = s)) && ahB (m.1 190) (pwM m) o s) = b → cnB (fun o => (!decide (o = s)) && ahB (m.1 190) (pwM m) o s) (o + 1) = cnB (fun o => (!decide (o = s)) && ahB (m.1 190) (pwM m) o s) o + (if b then 1 else 0) := by
        intro b hb
        show _ + (if ((!decide (o = s)) && ahB (m.1 190) (pwM m) o s) = true then 1 else 0) = _
        rw [hb]
      refine g_X12_table_35 ⟨fun q => absurd q (nle m1 f1 _ (by omega)), fun _ => ⟨fun e => ?_, fun e => ?_⟩⟩
      · have hos : o = s := by
          have h1 := congrArg Int32.toInt e
          rw [nI_toInt (by omega), nI_toInt (by omega)] at h1
          omega
        have := ih (o + 1) m1 (by omega) w1 f1 h16
        rw [st false (by rw [decide_eq_true hos]; rfl)] at this
        rw [nI_1, Int32.add_zero]
        exact this
      · have hos : o ≠ s := fun q => e (by rw [q])
        refine (isAhead_ok w1 (by omega) (by omega)).to ?_
        rintro _ m2 ⟨w2, f2, rfl⟩
        have f2' := f1.tr f2 (RS_sub (l1 := [22, 28]) rfl)
        have h16' : (m2.1 187 16).toInt = (tbR c n p s : Int) := by rw [f2.at (by decide)]; exact h16
        have hh := ih (o + 1) m2 (by omega) w2 f2' h16'
        obtain ⟨e1, e2⟩ := pww m1 f1
        rw [e1, e2]
        refine ⟨_, rfl, fun q => ?_, fun q => ?_⟩
        · rw [st false (by
            rw [decide_eq_false hos]
            cases hb : ahB (m.1 190) (pwM m) o s
            · rfl
            · rw [hb] at q; exact absurd q (by decide))] at hh
          rw [nI_1, Int32.add_zero]
          exact hh
        · rw [st true (by
            rw [decide_eq_false hos]
            cases hb : ahB (m.1 190) (pwM m) o s
            · rw [hb] at q; exact absurd rfl q
            · rfl)] at hh
          rw [nI_1, nI_1]
          exact hh
  have L22 : ∀ (p : Nat), p < n → (∀ m2, WT m2 → Fx (RS [20, 22, 26, 28]) m m2 → (m2.1 187 16).toInt = (tbR c n (p + 1) 0 : Int) → AW ad E0 μX12_table (d + 170) (tbQ m) 12 [(0, .ref (ad 187)), (1, .int (nI (p + 1)))] [] m2) →
      ∀ j s m1, s + j = n → WT m1 → Fx (RS [20, 22, 26, 28]) m m1 → (m1.1 187 16).toInt = (tbR c n p s : Int) → AW ad E0 μX12_table (d + 170) (tbQ m) 22 [(0, .ref (ad 187)), (1, .int (nI p)), (2, .int (nI s))] [] m1 := by
    intro p hp K j
    induction j with
    | zero =>
      intro s m1 hs w1 f1 h16
      obtain rfl : s = n := by omega
      refine g_X12_table_22 ⟨fun _ => ?_, fun q => absurd (by rw [sid m1 f1]; exact (nI_leI (by omega) (by omega)).mpr (Nat.le_refl _)) q⟩
      rw [nI_1]
      exact K m1 w1 f1 (by rw [h16, tbR_nx])
    | succ j ih =>
      intro s m1 hs w1 f1 h16
      refine g_X12_table_22 ⟨fun q => absurd q (nle m1 f1 _ (by omega)), fun _ => ?_⟩
      exact L35 p s (by omega) (by omega) (fun m2 w2 f2 h2 => ih (s + 1) m2 (by omega) w2 f2 h2) n 0 m1 (by omega) w1 f1 h16
  have L12 : ∀ j p m1, p + j = n → WT m1 → Fx (RS [20, 22, 26, 28]) m m1 → (m1.1 187 16).toInt = (tbR c n p 0 : Int) → AW ad E0 μX12_table (d + 170) (tbQ m) 12 [(0, .ref (ad 187)), (1, .int (nI p))] [] m1 := by
    intro j
    induction j with
    | zero =>
      intro p m1 hp w1 f1 h16
      obtain rfl : p = n := by omega
      exact g_X12_table_12 ⟨fun _ => ⟨w1, f1, _, rfl, by rw [sid m1 f1, en]⟩, fun q => absurd (by rw [sid m1 f1]; exact (nI_leI (by omega) (by omega)).mpr (Nat.le_refl _)) q⟩
    | succ j ih =>
      intro p m1 hp w1 f1 h16
      refine g_X12_table_12 ⟨fun _ => ⟨w1, f1, _, rfl, by rw [sid m1 f1, en]⟩, fun _ => ?_⟩
      exact L22 p (by omega) (fun m2 w2 f2 h2 => ih (p + 1) m2 (by omega) w2 f2 h2) n 0 m1 (by omega) w1 f1 h16
  refine v_X12_table (d := d + 169) ?_
  have := L12 n 0 (uI (uI m 187 17 0) 187 16 0) (by omega) ((w.n rfl).t rfl (by decide) (by decide)) (((Fx.rf (S := RS [20, 22, 26, 28]) (m := m)).i (a := 187) (k := 17) rfl).i (a := 187) (k := 16) rfl) (by rw [show tbR c n 0 0 = 0 from cnB_0 n]; rfl)
  exact this
end TB
