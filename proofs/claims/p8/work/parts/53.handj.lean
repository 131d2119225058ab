section
/-! THE TABLE (model): each side is told once, for POWER is a number of the league alone -/
section TB
variable {ad : Nat → Nat} {m : Wm}
def ahB (p w : Nat → Int32) (a b : Nat) : Bool := if p a = p b then (if w a = w b then decide (a < b) else decide ((w b).toInt < (w a).toInt)) else decide ((p b).toInt < (p a).toInt)
theorem isAhead_ok {d a b : Nat} (w : WT m) (ha : a < 8) (hb : b < 8) : Ct ad μX12_isAhead (d + 169) [.ref (ad 187), .int (nI a), .int (nI b)] m (fun r m' => WT m' ∧ Fx (RS [22, 28]) m m' ∧ r = some (.int (if ahB (m.1 190) (pwM m) a b then 1 else 0))) := by
  refine v_X12_isAhead ?_
  rw [nI_clamp (by omega), nI_clamp (by omega)]
  refine ⟨nat_in ha (by decide), nat_in hb (by decide), fun e => ?_, fun e => ⟨nat_in ha (by decide), nat_in hb (by decide), fun c => ?_, fun c => ?_⟩⟩
  · refine (power_ok w ha).to ?_
    rintro _ m1 ⟨w1, f1, rfl⟩
    refine ⟨_, rfl, (power_ok w1 hb).to ?_⟩
    rintro _ m2 ⟨w2, f2, rfl⟩
    have e2 : pwM m1 b = pwM m b := by
      have e1 := fx_cell (a := 200) (ρ := 48) f1 (fun _ => rfl) rfl
      have e2 := fx_cell (a := 188) (ρ := 24) f1 (fun _ => rfl) rfl
      have e3 := fx_cell (a := 190) (ρ := 24) f1 (fun _ => rfl) rfl
      have e4 := fx_cell (a := 191) (ρ := 24) f1 (fun _ => rfl) rfl
      have e5 := f1.at (a := 187) (k := 27) (by decide)
      have e6 := f1.at (a := 187) (k := 0) (by decide)
      unfold pwM
      rw [e1, e2, e3, e4, e5, e6]
    rw [e2]
    have f2' := f1.tr f2 (RS_sub rfl)
    refine ⟨_, rfl, fun q => ⟨fun c => ?_, fun c => ?_⟩, fun q => ⟨fun c => ?_, fun c => ?_⟩⟩
    · refine ⟨w2, f2', ?_⟩
      unfold ahB
      rw [if_pos e, if_pos q, decide_eq_false (by have := (nI_leI (by omega) (by omega)).mp c; omega)]
      rfl
    · refine ⟨w2, f2', ?_⟩
      unfold ahB
      rw [if_pos e, if_pos q, decide_eq_true (by have : ¬ b ≤ a := fun q => c ((nI_leI (by omega) (by omega)).mpr q); omega)]
      rfl
    · refine ⟨w2, f2', ?_⟩
      have c' := z_le c
      unfold ahB
      rw [if_pos e, if_neg q, decide_eq_false (by omega)]
      rfl
    · refine ⟨w2, f2', ?_⟩
      have c' := z_nle c
      unfold ahB
      rw [if_pos e, if_neg q, decide_eq_true (by omega)]
      rfl
  · refine ⟨w, Fx.rf, ?_⟩
    have c' := z_le c
    unfold ahB
    rw [if_neg e, decide_eq_false (by omega)]
    rfl
  · refine ⟨w, Fx.rf, ?_⟩
    have c' := z_nle c
    unfold ahB
    rw [if_neg e, decide_eq_true (by omega)]
    rfl
def cnB (f : Nat → Bool) : Nat → Nat
  | 0 => 0
  | n + 1 => cnB f n + (if f n then 1 else 0)
theorem cnB_le {f : Nat → Bool} : ∀ n, cnB f n ≤ n := by
  intro n
  induction n with
  | zero => exact Nat.le_refl _
  | succ n ih =>
    show cnB f n + _ ≤ n + 1
    split <;> omega
theorem cnB_mono {f : Nat → Bool} {a : Nat} : ∀ n, a ≤ n → cnB f a ≤ cnB f n := by
  intro n
  induction n with
  | zero => intro h; obtain rfl : a = 0 := by omega
            exact Nat.le_refl _
  | succ n ih =>
    intro h
    by_cases e : a = n + 1
    · rw [e]; exact Nat.le_refl _
    · have := ih (by omega)
      show _ ≤ cnB f n + _
      omega
theorem cnB_add {c : Nat → Nat} {p : Nat} : ∀ n, cnB (fun t => decide (c t < p)) n + cnB (fun t => decide (c t = p)) n = cnB (fun t => decide (c t < p + 1)) n := by
  intro n
  induction n with
  | zero => rfl
  | succ n ih =>
    show cnB (fun t => decide (c t < p)) n + (if decide (c n < p) = true then 1 else 0) + (cnB (fun t => decide (c t = p)) n + (if decide (c n = p) = true then 1 else 0)) = cnB (fun t => decide (c t < p + 1)) n + (if decide (c n < p + 1) = true then 1 else 0)
    simp only [decide_eq_true_eq]
    split <;> split <;> split <;> omega
theorem cnB_0 {c : Nat → Nat} : ∀ n, cnB (fun t => decide (c t < 0)) n = 0 := by
  intro n
  induction n with
  | zero => rfl
  | succ n ih =>
    show cnB (fun t => decide (c t < 0)) n + (if decide (c n < 0) = true then 1 else 0) = 0
    rw [ih, decide_eq_false (by omega)]
    rfl
def tbR (c : Nat → Nat) (n p s : Nat) : Nat := cnB (fun t => decide (c t < p)) n + cnB (fun t => decide (c t = p)) s
theorem tbR_le {c : Nat → Nat} {n p s : Nat} (h : s ≤ n) : tbR c n p s ≤ n := by
  have h1 := cnB_add (c := c) (p := p) n
  have h2 := cnB_mono (f := fun t => decide (c t = p)) n h
  have h3 := cnB_le (f := fun t => decide (c t < p + 1)) n
  unfold tbR
  omega
theorem tbR_nx {c : Nat → Nat} {n p : Nat} : tbR c n p n = tbR c n (p + 1) 0 := cnB_add n
def tbQ (m : Wm) (r : Option Value) (m' : Wm) : Prop := WT m' ∧ Fx (RS [20, 22, 26, 28]) m m' ∧ ∃ v : Int32, r = some (.int v) ∧ v.toInt = (m.1 187 1).toInt
theorem s_X12_table {d : Nat} (w : WT m) : Ct ad μX12_table (d + 170) [.ref (ad 187)] m (fun r m' => WT m' ∧ Fx (RS [20, 22, 26, 28]) m m' ∧ ∃ v : Int32, r = some (.int v) ∧ v.toInt = (m.1 187 1).toInt) := by
  obtain ⟨n, en, -, n1, n2, n3⟩ := w.nat (a := 187) (k := 1) rfl (by decide)
  have hn8 : n ≤ 8 := by omega
  let c : Nat → Nat := fun s => cnB (fun o => (!decide (o = s)) && ahB (m.1 190) (pwM m) o s) n
  have cd : ∀ s, c s = cnB (fun o => (!decide (o = s)) && ahB (m.1 190) (pwM m) o s) n := fun _ => rfl
  have sid : ∀ m1, Fx (RS [20, 22, 26, 28]) m m1 → m1.1 187 1 = nI n := fun m1 f1 => (f1.at (by decide)).trans en
  have nle : ∀ m1, Fx (RS [20, 22, 26, 28]) m m1 → ∀ o, o < n → ¬ m1.1 187 1 ≤ nI o := fun m1 f1 o ho q => by
    rw [sid m1 f1] at q
    have := (nI_leI (by omega) (by omega)).mp q
    omega
  have pww : ∀ m1, Fx (RS [20, 22, 26, 28]) m m1 → pwM m1 = pwM m ∧ m1.1 190 = m.1 190 := by
    intro m1 f1
    have e1 := fx_cell (a := 200) (ρ := 48) f1 (fun _ => rfl) rfl
    have e2 := fx_cell (a := 188) (ρ := 24) f1 (fun _ => rfl) rfl
    have e3 := fx_cell (a := 190) (ρ := 24) f1 (fun _ => rfl) rfl
    have e4 := fx_cell (a := 191) (ρ := 24) f1 (fun _ => rfl) rfl
    have e5 := f1.at (a := 187) (k := 27) (by decide)
    have e6 := f1.at (a := 187) (k := 0) (by decide)
    refine ⟨?_, e3⟩
    funext s
    unfold pwM
    rw [e1, e2, e3, e4, e5, e6]
  have L35 : ∀ (p s : Nat), p < 8 → s < n → (∀ m2, WT m2 → Fx (RS [20, 22, 26, 28]) m m2 → (m2.1 187 16).toInt = (tbR c n p (s + 1) : Int) → AW ad E0 μX12_table (d + 170) (tbQ m) 22 [(0, .ref (ad 187)), (1, .int (nI p)), (2, .int (nI (s + 1)))] [] m2) →
      ∀ j o m1, o + j = n → WT m1 → Fx (RS [20, 22, 26, 28]) m m1 → (m1.1 187 16).toInt = (tbR c n p s : Int) → AW ad E0 μX12_table (d + 170) (tbQ m) 35 [(0, .ref (ad 187)), (1, .int (nI p)), (2, .int (nI s)), (3, .int (nI (cnB (fun o => (!decide (o = s)) && ahB (m.1 190) (pwM m) o s) o))), (4, .int (nI o))] [] m1 := by
    intro p s hp hs K j
    induction j with
    | zero =>
      intro o m1 ho w1 f1 h16
      obtain rfl : o = n := by omega
      have hc := cnB_le (f := fun o => (!decide (o = s)) && ahB (m.1 190) (pwM m) o s) o
      have hR := tbR_le (c := c) (n := o) (p := p) (s := s) (by omega)
      refine g_X12_table_35 ⟨fun _ => ⟨fun e => ?_, fun e => (s_X12_tell w1 (by omega)).to ?_⟩, fun q => absurd (by rw [sid m1 f1]; exact (nI_leI (by omega) (by omega)).mpr (Nat.le_refl _)) q⟩
      · rw [nI_1]
        refine K m1 w1 f1 ?_
        rw [h16]
        have : c s ≠ p := fun q => e (by rw [← cd, q])
        show ((tbR c o p s : Nat) : Int) = ((cnB _ o + (cnB (fun t => decide (c t = p)) s + (if decide (c s = p) = true then 1 else 0)) : Nat) : Int)
        rw [decide_eq_false this]
        rfl
      · rintro _ m2 ⟨w2, f2, rfl, p2⟩
        refine ⟨rfl, ?_⟩
        rw [nI_1]
        refine K m2 w2 (f1.tr f2 (RS_sub rfl)) ?_
        rw [p2, h16]
        have : c s = p := by
          have h1 := congrArg Int32.toInt e
          rw [nI_toInt (by omega), nI_toInt (by omega)] at h1
          rw [cd]
          omega
        show ((tbR c o p s : Nat) : Int) + 1 = ((cnB _ o + (cnB (fun t => decide (c t = p)) s + (if decide (c s = p) = true then 1 else 0)) : Nat) : Int)
        rw [decide_eq_true this]
        show ((cnB _ o + cnB _ s : Nat) : Int) + 1 = ((cnB _ o + (cnB _ s + 1) : Nat) : Int)
        omega
    | succ j ih =>
      intro o m1 ho w1 f1 h16
      have st : ∀ b : Bool, ((!decide (o = s)) && ahB (m.1 190) (pwM m) o s) = b → cnB (fun o => (!decide (o = s)) && ahB (m.1 190) (pwM m) o s) (o + 1) = cnB (fun o => (!decide (o = s)) && ahB (m.1 190) (pwM m) o s) o + (if b then 1 else 0) := by
        intro b hb
        show _ + (if ((!decide (o = s)) && ahB (m.1 190) (pwM m) o s) = true then 1 else 0) = _
        rw [hb]
      refine g_X12_table_35 ⟨fun q => absurd q (nle m1 f1 _ (by omega)), fun _ => ⟨fun e => ?_, fun e => ?_⟩⟩
      · have hos : o = s := by
          have h1 := congrArg Int32.toInt e
          rw [nI_toInt (by omega), nI_toInt (by omega)] at h1
          omega
        have := ih (o + 1) m1 (by omega) w1 f1 h16
        rw [st false (by rw [decide_eq_true hos]; rfl)] at this
        rw [nI_1, Int32.add_zero]
        exact this
      · have hos : o ≠ s := fun q => e (by rw [q])
        refine (isAhead_ok w1 (by omega) (by omega)).to ?_
        rintro _ m2 ⟨w2, f2, rfl⟩
        have f2' := f1.tr f2 (RS_sub (l1 := [22, 28]) rfl)
        have h16' : (m2.1 187 16).toInt = (tbR c n p s : Int) := by rw [f2.at (by decide)]; exact h16
        have hh := ih (o + 1) m2 (by omega) w2 f2' h16'
        obtain ⟨e1, e2⟩ := pww m1 f1
        rw [e1, e2]
        refine ⟨_, rfl, fun q => ?_, fun q => ?_⟩
        · rw [st false (by
            rw [decide_eq_false hos]
            cases hb : ahB (m.1 190) (pwM m) o s
            · rfl
            · rw [hb] at q; exact absurd q (by decide))] at hh
          rw [nI_1, Int32.add_zero]
          exact hh
        · rw [st true (by
            rw [decide_eq_false hos]
            cases hb : ahB (m.1 190) (pwM m) o s
            · rw [hb] at q; exact absurd rfl q
            · rfl)] at hh
          rw [nI_1, nI_1]
          exact hh
  have L22 : ∀ (p : Nat), p < n → (∀ m2, WT m2 → Fx (RS [20, 22, 26, 28]) m m2 → (m2.1 187 16).toInt = (tbR c n (p + 1) 0 : Int) → AW ad E0 μX12_table (d + 170) (tbQ m) 12 [(0, .ref (ad 187)), (1, .int (nI (p + 1)))] [] m2) →
      ∀ j s m1, s + j = n → WT m1 → Fx (RS [20, 22, 26, 28]) m m1 → (m1.1 187 16).toInt = (tbR c n p s : Int) → AW ad E0 μX12_table (d + 170) (tbQ m) 22 [(0, .ref (ad 187)), (1, .int (nI p)), (2, .int (nI s))] [] m1 := by
    intro p hp K j
    induction j with
    | zero =>
      intro s m1 hs w1 f1 h16
      obtain rfl : s = n := by omega
      refine g_X12_table_22 ⟨fun _ => ?_, fun q => absurd (by rw [sid m1 f1]; exact (nI_leI (by omega) (by omega)).mpr (Nat.le_refl _)) q⟩
      rw [nI_1]
      exact K m1 w1 f1 (by rw [h16, tbR_nx])
    | succ j ih =>
      intro s m1 hs w1 f1 h16
      refine g_X12_table_22 ⟨fun q => absurd q (nle m1 f1 _ (by omega)), fun _ => ?_⟩
      exact L35 p s (by omega) (by omega) (fun m2 w2 f2 h2 => ih (s + 1) m2 (by omega) w2 f2 h2) n 0 m1 (by omega) w1 f1 h16
  have L12 : ∀ j p m1, p + j = n → WT m1 → Fx (RS [20, 22, 26, 28]) m m1 → (m1.1 187 16).toInt = (tbR c n p 0 : Int) → AW ad E0 μX12_table (d + 170) (tbQ m) 12 [(0, .ref (ad 187)), (1, .int (nI p))] [] m1 := by
    intro j
    induction j with
    | zero =>
      intro p m1 hp w1 f1 h16
      obtain rfl : p = n := by omega
      exact g_X12_table_12 ⟨fun _ => ⟨w1, f1, _, rfl, by rw [sid m1 f1, en]⟩, fun q => absurd (by rw [sid m1 f1]; exact (nI_leI (by omega) (by omega)).mpr (Nat.le_refl _)) q⟩
    | succ j ih =>
      intro p m1 hp w1 f1 h16
      refine g_X12_table_12 ⟨fun _ => ⟨w1, f1, _, rfl, by rw [sid m1 f1, en]⟩, fun _ => ?_⟩
      exact L22 p (by omega) (fun m2 w2 f2 h2 => ih (p + 1) m2 (by omega) w2 f2 h2) n 0 m1 (by omega) w1 f1 h16
  refine v_X12_table (d := d + 169) ?_
  have := L12 n 0 (uI (uI m 187 17 0) 187 16 0) (by omega) ((w.n rfl).t rfl (by decide) (by decide)) (((Fx.rf (S := RS [20, 22, 26, 28]) (m := m)).i (a := 187) (k := 17) rfl).i (a := 187) (k := 16) rfl) (by rw [show tbR c n 0 0 = 0 from cnB_0 n]; rfl)
  exact this
end TB
end
section
/-! THE PLAN (model): rounds; what is taken over -/
section PLN
variable {ad : Nat → Nat} {d : Nat} {a na sz tp e : Nat} {tx : Nat → Int32}
theorem rd_ok (A : PA a na sz tp e) {n : Nat} (hn : n ≤ 8) (ha : a ≠ 199) {m0 : Wm} {Q : Option Value → Wm → Prop} (hm0 : m0.1 187 1 = nI n) :
    ∀ (k r g : Nat) (np : Nat → Int32) (p : Nat) (w : Int32) (m : Wm), 13 ≤ k + r → r ≤ 12 → (w = -1 → 4 * g ≤ p ∧ (r = 0 ∨ 1 ≤ g)) → g ≤ 40 → PS a sz tp e tx p w m → m.1 199 = np → Fx (RS [22, 27]) m0 m → WT m →
    (∀ m' r' g' np' p' w', rdF tx e n k r g np (p, w) = (r', g', np', (p', w')) → PS a sz tp e tx p' w' m' → m'.1 199 = np' → Fx (RS [22, 27]) m0 m' → WT m' → (w' = -1 → r' ≤ 12 ∧ (r' = 0 ∨ 1 ≤ g')) → g' ≤ 40 → r' ≤ 13 →
      AW ad E0 μX12_plan (d + 4 + 1) Q 238 [(0, .ref (ad 187)), (1, .int (nI r')), (2, .int (nI g'))] [] m') →
    AW ad E0 μX12_plan (d + 4 + 1) Q 41 [(0, .ref (ad 187)), (1, .int (nI r)), (2, .int (nI g)), (3, .int 1)] [] m := by
  intro k
  induction k with
  | zero => intros; omega
  | succ k ih =>
    intro r g np p w m hk hr hg hg4 h hnp f wt K
    refine g_X12_plan_41 ⟨fun c => absurd c (by decide), fun _ => (fine_ok h).to ?_⟩
    rintro _ m' ⟨eq, rfl⟩
    obtain rfl := eq.symm
    by_cases hw : w = -1
    · subst hw
      have hg2 := hg rfl
      refine ⟨1, by rw [if_pos rfl], fun c => absurd c (by decide), fun _ => ?_⟩
      have ex : rdF tx e n (k + 1) r g np (p, -1) = (if passF tx e 59 (gmF tx e n r 81 0 g np (if r = 12 then fltF (nI p) (p, -1) else (p, -1))).2.2 = true then rdF tx e n k (r + 1) (gmF tx e n r 81 0 g np (if r = 12 then fltF (nI p) (p, -1) else (p, -1))).1 (gmF tx e n r 81 0 g np (if r = 12 then fltF (nI p) (p, -1) else (p, -1))).2.1 ((gmF tx e n r 81 0 g np (if r = 12 then fltF (nI p) (p, -1) else (p, -1))).2.2.1 + 1, (gmF tx e n r 81 0 g np (if r = 12 then fltF (nI p) (p, -1) else (p, -1))).2.2.2) else (r + 1, (gmF tx e n r 81 0 g np (if r = 12 then fltF (nI p) (p, -1) else (p, -1))).1, (gmF tx e n r 81 0 g np (if r = 12 then fltF (nI p) (p, -1) else (p, -1))).2.1, (gmF tx e n r 81 0 g np (if r = 12 then fltF (nI p) (p, -1) else (p, -1))).2.2)) := if_pos rfl
      have go : ∀ (w1 : Int32) (m1 : Wm), (if r = 12 then fltF (nI p) (p, -1) else (p, -1)) = (p, w1) → (w1 = -1 → r < 12) → PS a sz tp e tx p w1 m1 → m1.1 199 = np → Fx (RS [22, 27]) m0 m1 → WT m1 → AW ad E0 μX12_plan (d + 4 + 1) Q 72 [(0, .ref (ad 187)), (1, .int (nI r)), (2, .int (nI g)), (4, .int 0), (5, .int 1)] [] m1 := by
        intro w1 m1 hs1 hr1 h1 c1 f1 wt1
        rw [hs1] at ex
        have hp80 := h1.small A
        have hpe : p ≤ e := h1.2.2.2.2.2.1
        have e80 : e ≤ 80 := by have := A.2.2.2.1; have := A.2.2.2.2.1; omega
        refine gm_ok A hn (by omega) ha hm0 81 0 g np p w1 m1 (by omega) (fun _ => hg2.1) hg4 h1 c1 f1 wt1 ?_
        intro m2 g' np' p' w' hG h2 c2 f2 wt2 hw' hg4'
        rw [hG] at ex
        refine (passes_ok A h2 (by decide)).to ?_
        rintro _ m3 ⟨rfl, h3, f3⟩
        have c3 : m3.1 199 = np' := (fx_cell (ρ := 27) f3 (fun _ => rfl) rfl).trans c2
        have F3 : Fx (RS [22, 27]) m0 m3 := f2.tr f3 (RS_sub rfl)
        have wt3 := wt2.fx f3
        by_cases h59 : passF tx e 59 (p', w') = true
        · have hwm : w' = -1 := (of_decide_eq_true h59).1
          have hw2 := hw' hwm
          rw [if_pos h59] at h3 ⊢
          have ex2 : rdF tx e n (k + 1) r g np (p, -1) = rdF tx e n k (r + 1) g' np' (p' + 1, w') := ex.trans (if_pos h59)
          have hr12 : r < 12 := by
            by_cases h12 : r = 12
            · exfalso
              have hw1 : w1 ≠ -1 := fun q => by have := hr1 q; omega
              have : gmF tx e n r 81 0 g np (p, w1) = (g, np, (p, w1)) := if_neg hw1
              rw [this] at hG
              have := congrArg (fun z => z.2.2.2) hG
              exact hw1 (this.trans hwm)
            · omega
          refine ⟨1, rfl, ?_⟩
          rw [nI_1]
          refine ih (r + 1) g' np' (p' + 1) w' m3 (by omega) (by omega) (fun _ => ⟨by omega, Or.inr hw2.2⟩) hg4' h3 c3 F3 wt3 ?_
          intro m4 r4 g4 np4 p4 w4 hq
          exact K m4 r4 g4 np4 p4 w4 (ex2.trans hq)
        · rw [if_neg h59] at h3 ⊢
          refine ⟨0, rfl, ?_⟩
          rw [nI_1]
          refine g_X12_plan_41 ⟨fun _ => ?_, fun c => absurd rfl c⟩
          refine K m3 (r + 1) g' np' p' w' (ex.trans (if_neg h59)) h3 c3 F3 wt3 (fun q => ⟨?_, Or.inr (hw' q).2⟩) hg4' (by omega)
          by_cases h12 : r = 12
          · exfalso
            have hw1 : w1 ≠ -1 := fun q => by have := hr1 q; omega
            have : gmF tx e n r 81 0 g np (p, w1) = (g, np, (p, w1)) := if_neg hw1
            rw [this] at hG
            have := congrArg (fun z => z.2.2.2) hG
            exact hw1 (this.trans q)
          · omega
      have t12 : (nI r = 12) ↔ r = 12 := by
        refine ⟨fun q => ?_, fun q => by rw [q]; rfl⟩
        have h1 := congrArg Int32.toInt q
        rw [nI_toInt (by omega)] at h1
        have : (12 : Int32).toInt = 12 := rfl
        omega
      refine ⟨fun c => ?_, fun c => ?_⟩
      · have h12 : r ≠ 12 := fun q => c (t12.mpr q)
        exact go (-1) m (if_neg h12) (fun _ => by omega) h hnp f wt
      · have h12 := t12.mp c
        rw [h.2.2.2.1]
        refine (fault_ok A h).to ?_
        rintro _ m2 ⟨rfl, h2, f2⟩
        have e2 : (fltF (nI p) (p, (-1 : Int32))).2 = nI p := rfl
        rw [e2] at h2
        refine ⟨rfl, go (nI p) m2 (if_pos h12) (fun q => ?_) h2 ((fx_cell (ρ := 27) f2 (fun _ => rfl) rfl).trans hnp) (f.tr f2 (RS_sub rfl)) (wt.fx f2)⟩
        exact absurd q.symm (m1_ne p (by have := h.small A; omega))
    · have ex : rdF tx e n (k + 1) r g np (p, w) = (r, g, np, (p, w)) := if_neg hw
      rw [ex] at K
      exact ⟨0, by rw [if_neg hw], fun _ => K m r g np p w rfl h hnp f wt (fun q => absurd q hw) hg4 (by omega), fun c => absurd rfl c⟩
/-- the bytes read: at most LONG -/
def minT (n t : Nat) : Nat := if n < t then n else t
theorem pa_text {n t : Nat} (hn : n ≤ 80) (ht : t ≤ 80) : PA 195 80 n t (minT n t) := by
  unfold minT
  by_cases h : n < t
  · rw [if_pos h]; exact ⟨rfl, hn, ht, by omega, by decide, by decide, by omega, by omega, Or.inl rfl⟩
  · rw [if_neg h]; exact ⟨rfl, hn, ht, by omega, by decide, by decide, by omega, by omega, Or.inr rfl⟩
theorem s_X12_plan {m : Wm} (w : WT m) : Ct ad μX12_plan (d + 5) [.ref (ad 187)] m (fun r m' => WT m' ∧ Fx (RS [20, 21, 22, 25, 27, 52, 55]) m m' ∧ (∃ v : Int32, r = some (.int v)) ∧ (m'.1 187 14).toInt = 0 ∧ ((m'.1 187 10 = m.1 187 10 ∧ m'.1 187 11 = m.1 187 11) ∨ (m'.1 187 11).toInt = 0 ∨ 1 ≤ (m'.1 187 10).toInt)) := by
  obtain ⟨n, en, -, n1, n2, n3⟩ := w.nat (a := 187) (k := 1) rfl (by decide)
  obtain ⟨ty, ety, -, y1, y2, y3⟩ := w.nat (a := 187) (k := 14) rfl (by decide)
  have w0 : WT (uI m 187 17 0) := w.n rfl
  have A := pa_text (n := ty) (t := 76) (by omega) (by decide)
  have he80 : minT ty 76 ≤ 80 := by unfold minT; split <;> omega
  refine v_X12_plan (d := d + 4) ((begin_ok (na := 80) rfl).to ?_)
  rintro _ m1 ⟨rfl, e1⟩
  have e1' : m1 = bgM (uI m 187 17 0) 195 (nI ty) (nI 76) := by rw [e1]; show _ = bgM _ _ (nI ty) _; rw [← ety]; rfl
  subst e1'
  clear e1
  have f1 : Fx (RS [22]) (uI m 187 17 0) (bgM (uI m 187 17 0) 195 (nI ty) (nI 76)) := bg_fx
  have P1 : PS 195 ty 76 (minT ty 76) ((uI m 187 17 0).1 195) 0 (-1) (bgM (uI m 187 17 0) 195 (nI ty) (nI 76)) := bg_ps he80 (by decide)
  have w1 := w0.fx f1
  generalize bgM (uI m 187 17 0) 195 (nI ty) (nI 76) = mb at f1 P1 w1 ⊢
  have w2 : WT (uI mb 187 14 0) := w1.t rfl (by decide) (by decide)
  have P2 : PS 195 ty 76 (minT ty 76) ((uI m 187 17 0).1 195) 0 (-1) (uI mb 187 14 0) := by
    obtain ⟨b1, b2, b3, b4, b5, b6, b7⟩ := P1
    exact ⟨b1, b2, b3, b4, b5, b6, fun k hk => b7 k hk⟩
  have F2 : Fx (RS [20, 21, 22, 25, 27, 52, 55]) m (uI mb 187 14 0) := (((Fx.rf (S := RS [20, 21, 22, 25, 27, 52, 55]) (m := m)).i (a := 187) (k := 17) (v := 0) rfl).tr f1 (RS_sub rfl)).i rfl
  have z14 : ((uI mb 187 14 0).1 187 14).toInt = 0 := rfl
  have h10 : (uI mb 187 14 0).1 187 10 = m.1 187 10 := f1.at (a := 187) (k := 10) (by decide)
  have h11 : (uI mb 187 14 0).1 187 11 = m.1 187 11 := f1.at (a := 187) (k := 11) (by decide)
  have h01 : (uI mb 187 14 0).1 187 1 = nI n := (f1.at (a := 187) (k := 1) (by decide)).trans en
  have h19 : (uI mb 187 14 0).1 187 19 = nI ty := P2.2.1
  generalize uI mb 187 14 0 = mc at w2 P2 F2 z14 h10 h11 h01 h19 ⊢
  refine ⟨rfl, ?_⟩
  -- the end
  have fin : ∀ (m' : Wm) (r' g' : Nat) (p' : Nat) (w' : Int32), PS 195 ty 76 (minT ty 76) ((uI m 187 17 0).1 195) p' w' m' → Fx (RS [22, 27]) mc m' → WT m' → (w' = -1 → r' ≤ 12 ∧ (r' = 0 ∨ 1 ≤ g')) → g' ≤ 40 → r' ≤ 13 →
      AW ad E0 μX12_plan (d + 4 + 1) (fun r m' => WT m' ∧ Fx (RS [20, 21, 22, 25, 27, 52, 55]) m m' ∧ (∃ v : Int32, r = some (.int v)) ∧ (m'.1 187 14).toInt = 0 ∧ ((m'.1 187 10 = m.1 187 10 ∧ m'.1 187 11 = m.1 187 11) ∨ (m'.1 187 11).toInt = 0 ∨ 1 ≤ (m'.1 187 10).toInt)) 238 [(0, .ref (ad 187)), (1, .int (nI r')), (2, .int (nI g'))] [] m' := by
    intro m' r' g' p' w' h f wt hw hg hr
    have cp : r' ≤ 12 → (r' = 0 ∨ 1 ≤ g') → ∀ (j x4 : Nat) (m3 : Wm), x4 + j = 4 * g' → WT m3 → Fx (RS [20, 21, 22, 25, 27, 52, 55]) m m3 → (m3.1 187 14).toInt = 0 → AW ad E0 μX12_plan (d + 4 + 1) (fun r m' => WT m' ∧ Fx (RS [20, 21, 22, 25, 27, 52, 55]) m m' ∧ (∃ v : Int32, r = some (.int v)) ∧ (m'.1 187 14).toInt = 0 ∧ ((m'.1 187 10 = m.1 187 10 ∧ m'.1 187 11 = m.1 187 11) ∨ (m'.1 187 11).toInt = 0 ∨ 1 ≤ (m'.1 187 10).toInt)) 274 [(0, .ref (ad 187)), (1, .int (nI r')), (2, .int (nI g')), (4, .int (nI x4))] [] m3 := by
      intro hr12 hrg j
      have l4 : (4 : Int32) * nI g' = nI (4 * g') := l_mul 4 4 rfl g'
      have tr' : (nI r').toInt = (r' : Int) := nI_toInt (by omega)
      have tg' : (nI g').toInt = (g' : Int) := nI_toInt (by omega)
      induction j with
      | zero =>
        intro x4 m3 hx wt3 f3 h14
        refine g_X12_plan_274 ?_
        rw [l4]
        refine ⟨fun _ => ⟨((wt3.t rfl (by omega) (by omega)).t rfl (by omega) (by omega)).n rfl, ((f3.i rfl).i rfl).i rfl, ⟨_, rfl⟩, h14, ?_⟩, fun c => absurd ((nI_leI (by omega) (by omega)).mpr (by omega)) c⟩
        rcases hrg with q | q
        · exact Or.inr (Or.inl (by show (nI r').toInt = 0; omega))
        · exact Or.inr (Or.inr (by show 1 ≤ (nI g').toInt; omega))
      | succ j ih =>
        intro x4 m3 hx wt3 f3 h14
        refine g_X12_plan_274 ?_
        rw [l4, nI_1, nI_clamp (by omega)]
        refine ⟨fun c => absurd ((nI_leI (by omega) (by omega)).mp c) (by omega), fun _ => ⟨nat_in (by omega) (by decide), nat_in (by omega) (by decide), ?_⟩⟩
        refine ih (x4 + 1) _ (by omega) ?_ (f3.i rfl) h14
        by_cases hx4 : x4 % 4 < 2
        · have e9 : TY 199 x4 = some (0, 7) := if_pos hx4
          have e4 : TY 194 x4 = some (0, 7) := if_pos hx4
          have := wt3.at e9
          exact wt3.t e4 this.1 this.2
        · exact wt3.n (if_neg hx4)
    have e257 : ∀ (m3 : Wm) (w3 : Int32), PS 195 ty 76 (minT ty 76) ((uI m 187 17 0).1 195) p' w3 m3 → Fx (RS [22, 27]) mc m3 → WT m3 → (w3 = -1 → w' = -1) → AW ad E0 μX12_plan (d + 4 + 1) (fun r m' => WT m' ∧ Fx (RS [20, 21, 22, 25, 27, 52, 55]) m m' ∧ (∃ v : Int32, r = some (.int v)) ∧ (m'.1 187 14).toInt = 0 ∧ ((m'.1 187 10 = m.1 187 10 ∧ m'.1 187 11 = m.1 187 11) ∨ (m'.1 187 11).toInt = 0 ∨ 1 ≤ (m'.1 187 10).toInt)) 257 [(0, .ref (ad 187)), (1, .int (nI r')), (2, .int (nI g'))] [] m3 := by
      intro m3 w3 h3 f3 wt3 hw3
      have F3 := F2.tr f3 (RS_sub rfl)
      have e14 : (m3.1 187 14).toInt = 0 := by rw [f3.at (a := 187) (k := 14) (by decide)]; exact z14
      refine g_X12_plan_257 ((fine_ok h3).to ?_)
      rintro _ m' ⟨eq, rfl⟩
      obtain rfl := eq.symm
      by_cases hq : w3 = -1
      · refine ⟨1, by rw [if_pos hq], fun _ => ?_, fun c => absurd c (by decide)⟩
        have := hw (hw3 hq)
        exact cp this.1 this.2 (4 * g') 0 m3 (by omega) wt3 F3 e14
      · exact ⟨0, by rw [if_neg hq], fun c => absurd rfl c, fun _ => ⟨wt3, F3, ⟨_, rfl⟩, e14, Or.inl ⟨(f3.at (a := 187) (k := 10) (by decide)).trans h10, (f3.at (a := 187) (k := 11) (by decide)).trans h11⟩⟩⟩
    refine g_X12_plan_238 ⟨fun _ => e257 m' w' h f wt (fun q => q), fun _ => (fault_ok A h).to ?_⟩
    rintro _ m3 ⟨rfl, h3, f3⟩
    refine ⟨rfl, e257 m3 _ h3 (f.tr f3 (RS_sub rfl)) (wt.fx f3) (fun q => ?_)⟩
    unfold fltF at q
    by_cases hq : w' = -1
    · exact hq
    · rw [if_neg hq] at q
      exact q
  refine ⟨fun _ => g_X12_plan_41 ⟨fun _ => fin mc 0 0 0 (-1) P2 Fx.rf w2 (fun _ => ⟨by decide, Or.inl rfl⟩) (by decide) (by decide), fun c => absurd rfl c⟩, fun _ => ?_⟩
  exact rd_ok A (n := n) (by omega) (by decide) (m0 := mc) h01 13 0 0 (mc.1 199) 0 (-1) mc (by decide) (by decide) (fun _ => ⟨by decide, Or.inl rfl⟩) (by decide) P2 rfl Fx.rf w2 (fun m' r' g' np' p' w' _ h _ f wt hw hg hr => fin m' r' g' p' w' h f wt hw hg hr)
end PLN
end
section
/-! THE RULE, THE LEAGUE (model) -/
section RUM
variable {ad : Nat → Nat} {d : Nat} {m : Wm}
def tqQ (S : List Nat) (m : Wm) (r : Option Value) (m' : Wm) : Prop := WT m' ∧ Fx (RS S) m m' ∧ (∃ v : Int32, r = some (.int v)) ∧ (m'.1 187 14).toInt = 0
theorem s_X12_rule (w : WT m) : Ct ad μX12_rule (d + 168) [.ref (ad 187)] m (tqQ [20, 21, 22, 48, 28] m) := by
  obtain ⟨ty, ety, -, y1, y2, y3⟩ := w.nat (a := 187) (k := 14) rfl (by decide)
  have w0 : WT (uI m 187 17 0) := w.n rfl
  have A := pa_text (n := ty) (t := 40) (by omega) (by decide)
  have he40 : minT ty 40 ≤ 40 := by unfold minT; split <;> omega
  refine v_X12_rule (d := d + 167) ((begin_ok (na := 80) rfl).to ?_)
  rintro _ m1 ⟨rfl, e1⟩
  have ety' : (uI m 187 17 0).1 187 14 = nI ty := ety
  rw [ety'] at e1 ⊢
  have e1' : m1 = bgM (uI m 187 17 0) 195 (nI ty) (nI 40) := e1
  subst e1'
  clear e1
  have f1 : Fx (RS [22]) (uI m 187 17 0) (bgM (uI m 187 17 0) 195 (nI ty) (nI 40)) := bg_fx
  have P1 : PS 195 ty 40 (minT ty 40) ((uI m 187 17 0).1 195) 0 (-1) (bgM (uI m 187 17 0) 195 (nI ty) (nI 40)) := bg_ps (by omega) (by decide)
  have w1 := w0.fx f1
  generalize bgM (uI m 187 17 0) 195 (nI ty) (nI 40) = mb at f1 P1 w1 ⊢
  have w2 : WT (uI (uI mb 187 14 0) 187 28 (-1)) := (w1.t rfl (by decide) (by decide)).t rfl (by decide) (by decide)
  have P2 : PS 195 ty 40 (minT ty 40) ((uI m 187 17 0).1 195) 0 (-1) (uI (uI mb 187 14 0) 187 28 (-1)) := by
    obtain ⟨b1, b2, b3, b4, b5, b6, b7⟩ := P1
    exact ⟨b1, b2, b3, b4, b5, b6, fun k hk => b7 k hk⟩
  have F2 : Fx (RS [20, 21, 22, 48, 28]) m (uI (uI mb 187 14 0) 187 28 (-1)) := ((((Fx.rf (S := RS [20, 21, 22, 48, 28]) (m := m)).i (a := 187) (k := 17) (v := 0) rfl).tr f1 (RS_sub rfl)).i rfl).i rfl
  have z14 : ((uI (uI mb 187 14 0) 187 28 (-1)).1 187 14).toInt = 0 := rfl
  have En : EN ad (fun _ => 0) (uI (uI mb 187 14 0) 187 28 (-1)) := Or.inl ⟨rfl, fun _ => rfl⟩
  generalize uI (uI mb 187 14 0) 187 28 (-1) = mc at w2 P2 F2 z14 En ⊢
  have cp : ty ≤ 40 → ∀ (j x2 : Nat) (m3 : Wm), x2 + j = ty → WT m3 → Fx (RS [20, 21, 22, 48, 28]) m m3 → (m3.1 187 14).toInt = 0 → AW ad E0 μX12_rule (d + 167 + 1) (tqQ [20, 21, 22, 48, 28] m) 73 [(0, .ref (ad 187)), (1, .int (nI ty)), (2, .int (nI x2))] [] m3 := by
    intro h40 j
    have tt : (nI ty).toInt = (ty : Int) := nI_toInt (by omega)
    induction j with
    | zero =>
      intro x2 m3 hx wt3 f3 h14
      exact g_X12_rule_73 ⟨fun _ => ⟨wt3.t rfl (by omega) (by omega), f3.i rfl, ⟨_, rfl⟩, h14⟩, fun c => absurd ((nI_leI (by omega) (by omega)).mpr (by omega)) c⟩
    | succ j ih =>
      intro x2 m3 hx wt3 f3 h14
      refine g_X12_rule_73 ⟨fun c => absurd ((nI_leI (by omega) (by omega)).mp c) (by omega), fun _ => ⟨nat_in (by omega) (by decide), nat_in (by omega) (by decide), ?_⟩⟩
      rw [nI_1]
      exact ih (x2 + 1) _ (by omega) (wt3.n rfl) (f3.i rfl) h14
  refine ⟨rfl, fun c => ?_, fun c => ?_⟩
  · have h0 : ty = 0 := by
      have := (nI_leI (a := ty) (b := 0) (by omega) (by omega)).mp c
      omega
    subst h0
    exact cp (by decide) 0 0 mc rfl w2 F2 z14
  · refine ((rul_ok (d := d) A 164).2.2.2 0 (by decide) 0 (-1) mc P2 En (by omega)).to ?_
    rintro _ m2 ⟨rfl, h2, -, f2⟩
    have F3 := F2.tr f2 (RS_sub rfl)
    have wt2 := w2.fx f2
    generalize prF ((uI m 187 17 0).1 195) (minT ty 40) (fun _ => 0) 164 3 0 (0, -1) = R at h2 ⊢
    obtain ⟨v, q, u⟩ := R
    dsimp only at h2 ⊢
    have hqe : q ≤ minT ty 40 := h2.2.2.2.2.2.1
    have e57 : ∀ (m3 : Wm) (w3 : Int32), PS 195 ty 40 (minT ty 40) ((uI m 187 17 0).1 195) q w3 m3 → Fx (RS [22]) m2 m3 → (w3 = -1 → ty ≤ q) → AW ad E0 μX12_rule (d + 167 + 1) (tqQ [20, 21, 22, 48, 28] m) 57 [(0, .ref (ad 187)), (1, .int (nI ty))] [] m3 := by
      intro m3 w3 h3 f3 hw
      have F4 := F3.tr f3 (RS_sub rfl)
      have wt3 := wt2.fx f3
      have e14 : (m3.1 187 14).toInt = 0 := by rw [f3.at (a := 187) (k := 14) (by decide), f2.at (a := 187) (k := 14) (by decide)]; exact z14
      refine g_X12_rule_57 ((fine_ok h3).to ?_)
      rintro _ m' ⟨eq, rfl⟩
      obtain rfl := eq.symm
      by_cases hq : w3 = -1
      · have := hw hq
        exact ⟨1, by rw [if_pos hq], fun _ => cp (by omega) ty 0 m3 (by omega) wt3 F4 e14, fun c => absurd c (by decide)⟩
      · exact ⟨0, by rw [if_neg hq], fun c => absurd rfl c, fun _ => ⟨wt3, F4, ⟨_, rfl⟩, e14⟩⟩
    refine ⟨v, rfl, fun c => ?_, fun c => ?_⟩
    · rw [h2.2.2.2.1] at c
      exact e57 m2 u h2 Fx.rf (fun _ => (nI_leI (by omega) (by omega)).mp c)
    · rw [h2.2.2.2.1]
      refine (fault_ok A h2).to ?_
      rintro _ m3 ⟨rfl, h3, f3⟩
      refine ⟨rfl, e57 m3 _ h3 f3 (fun q => (flt_2 (p := _) (w := u) q (by omega)).elim)⟩
end RUM
end
section
/-! THE LEAGUE (model) -/
section LGM
variable {ad : Nat → Nat} {d : Nat} {m : Wm}
def lgS : List Nat := [20, 21, 22, 23, 24, 25, 27, 29, 39, 45, 46, 52]
def lgQ (m : Wm) (r : Option Value) (m' : Wm) : Prop := WT m' ∧ Fx (RS [20, 21, 22, 23, 24, 25, 27, 29, 39, 45, 46, 52]) m m' ∧ (∃ v : Int32, r = some (.int v)) ∧ (m'.1 187 14).toInt = 0 ∧ ((m'.1 187 10 = m.1 187 10 ∧ m'.1 187 11 = m.1 187 11) ∨ (m'.1 187 11).toInt = 0)
/-- what holds of the cells while the league is taken over -/
def lgI (m m3 : Wm) : Prop := WT m3 ∧ Fx (RS [20, 21, 22, 23, 24, 25, 27, 29, 39, 45, 46, 52]) m m3 ∧ (m3.1 187 14).toInt = 0 ∧ ((m3.1 187 10 = m.1 187 10 ∧ m3.1 187 11 = m.1 187 11) ∨ (m3.1 187 11).toInt = 0)
theorem lg_362 {m3 : Wm} {x3 x5 : Int32} (I : lgI m m3) (h0 : 0 ≤ x3.toInt) (h1 : x3.toInt ≤ 8) : AW ad E0 μX12_league (d + 1) (lgQ m) 362 [(0, .ref (ad 187)), (3, .int x3), (5, .int x5)] [] m3 := by
  obtain ⟨w, f, e, g⟩ := I
  exact g_X12_league_362 ⟨(w.t rfl h0 h1).t rfl (by decide) (by decide), (f.i rfl).i rfl, ⟨_, rfl⟩, e, g⟩
theorem lg_copy {x4 x5 : Int32} {th : Nat} (hth : th ≤ 8) : ∀ (j s : Nat) (m3 : Wm), s + j = th ∨ (th ≤ s ∧ j = 0 ∧ s ≤ 8) → lgI m m3 → AW ad E0 μX12_league (d + 1) (lgQ m) 250 [(0, .ref (ad 187)), (3, .int (nI th)), (4, .int x4), (5, .int x5), (7, .int (nI s))] [] m3 := by
  intro j
  have tt : (nI th).toInt = (th : Int) := nI_toInt (by omega)
  have l3 : ∀ m3 : Wm, lgI m m3 → AW ad E0 μX12_league (d + 1) (lgQ m) 362 [(0, .ref (ad 187)), (3, .int (nI th)), (5, .int x5)] [] m3 := fun m3 I => lg_362 I (by omega) (by omega)
  have l53 : ∀ (m3 : Wm) (v : Int32), lgI m m3 → lgI m (uI m3 187 53 v) := fun m3 v I => ⟨I.1.n rfl, I.2.1.i rfl, I.2.2.1, I.2.2.2⟩
  induction j with
  | zero =>
    intro s m3 hs I
    refine g_X12_league_250 ⟨fun _ => ⟨fun _ => l3 _ (l53 _ _ I), fun _ => ⟨fun _ => l3 _ I, fun _ => l3 _ (l53 _ _ I)⟩⟩, fun c => absurd ((nI_leI (by omega) (by omega)).mpr (by omega)) c⟩
  | succ j ih =>
    intro s m3 hs I
    have hs8 : s < 8 := by omega
    refine g_X12_league_250 ⟨fun c => absurd ((nI_leI (by omega) (by omega)).mp c) (by omega), fun _ => ?_⟩
    have L : ∀ (i a : Nat) (m4 : Wm), a + i = 4 → lgI m m4 → AW ad E0 μX12_league (d + 1) (lgQ m) 259 [(0, .ref (ad 187)), (3, .int (nI th)), (4, .int x4), (5, .int x5), (7, .int (nI s)), (8, .int (nI a))] [] m4 := by
      intro i
      induction i with
      | zero =>
        intro a m4 ha I4
        obtain ⟨w, f, e, g⟩ := I4
        have v := nat_in hs8 (show (8 : Nat) < 2147483648 by decide)
        refine g_X12_league_259 ⟨fun _ => ⟨v, v, v, v, v, ?_⟩, fun c => absurd ((le_l 4 4 rfl (by omega) (by omega)).mpr (by omega)) c⟩
        rw [nI_1]
        exact ih (s + 1) _ (by omega) ⟨(((w.n rfl).n rfl).n rfl).n rfl, (((f.i rfl).i rfl).i rfl).i rfl, e, g⟩
      | succ i ih2 =>
        intro a m4 ha I4
        obtain ⟨w, f, e, g⟩ := I4
        have l4 : (4 : Int32) * nI s + nI a = nI (4 * s + a) := by rw [l_mul 4 4 rfl, nI_add]
        refine g_X12_league_259 ⟨fun c => absurd ((le_l 4 4 rfl (by omega) (by omega)).mp c) (by omega), fun _ => ?_⟩
        rw [l4, nI_1]
        exact ⟨nat_in (by omega) (by decide), nat_in (by omega) (by decide), ih2 (a + 1) _ (by omega) ⟨w.n rfl, f.i rfl, e, g⟩⟩
    exact L 4 0 m3 (by decide) I
/-- the numbers read so far -/
def lgV (w x1 x4 : Int32) (fr th : Nat) : Prop := (w = -1 → x4 = 0 ∨ (1 ≤ x1.toInt ∧ x1.toInt ≤ 4)) ∧ fr ≤ 8 ∧ th ≤ 8
theorem lg_end {ty e : Nat} {tx : Nat → Int32} (A : PA 195 80 ty 76 e) {x1 x4 x5 : Int32} {fr th p : Nat} {w : Int32} {m3 : Wm} (h : PS 195 ty 76 e tx p w m3) (V : lgV w x1 x4 fr th) (I : lgI m m3) : AW ad E0 μX12_league (d + 1 + 1) (lgQ m) 184 [(0, .ref (ad 187)), (1, .int x1), (2, .int (nI fr)), (3, .int (nI th)), (4, .int x4), (5, .int x5)] [] m3 := by
  obtain ⟨v1, v2, v3⟩ := V
  have e203 : ∀ (m4 : Wm) (w4 : Int32), PS 195 ty 76 e tx p w4 m4 → Fx (RS [22]) m3 m4 → (w4 = -1 → w = -1) → AW ad E0 μX12_league (d + 1 + 1) (lgQ m) 203 [(0, .ref (ad 187)), (1, .int x1), (2, .int (nI fr)), (3, .int (nI th)), (4, .int x4), (5, .int x5)] [] m4 := by
    intro m4 w4 h4 f4 hw
    obtain ⟨w0, f0, e0, g0⟩ := I
    have w5 := w0.fx f4
    have f5 : Fx (RS [20, 21, 22, 23, 24, 25, 27, 29, 39, 45, 46, 52]) m m4 := f0.tr f4 (RS_sub rfl)
    have e5 : (m4.1 187 14).toInt = 0 := by rw [f4.at (a := 187) (k := 14) (by decide)]; exact e0
    have g5 : (m4.1 187 10 = m.1 187 10 ∧ m4.1 187 11 = m.1 187 11) ∨ (m4.1 187 11).toInt = 0 := by rw [f4.at (a := 187) (k := 10) (by decide), f4.at (a := 187) (k := 11) (by decide)]; exact g0
    refine g_X12_league_203 ((fine_ok h4).to ?_)
    rintro _ m' ⟨eq, rfl⟩
    obtain rfl := eq.symm
    by_cases hq : w4 = -1
    · refine ⟨1, by rw [if_pos hq], fun _ => ⟨fun _ => ?_, fun c => ?_⟩, fun c => absurd c (by decide)⟩
      · exact lg_copy v3 (th - fr) fr m4 (by omega) ⟨w5, f5, e5, g5⟩
      · rcases v1 (hw hq) with q | ⟨q1, q2⟩
        · exact absurd q c
        · exact lg_copy v3 (th - fr) fr _ (by omega) ⟨((((w5.t rfl q1 q2).t rfl (by decide) (by decide)).t rfl (by decide) (by decide)).n rfl).t rfl (by decide) (by decide), ((((f5.i rfl).i rfl).i rfl).i rfl).i rfl, e5, Or.inr rfl⟩
    · exact ⟨0, by rw [if_neg hq], fun c => absurd rfl c, fun _ => ⟨w5, f5, ⟨_, rfl⟩, e5, g5⟩⟩
  refine g_X12_league_184 ⟨fun _ => e203 m3 w h Fx.rf (fun q => q), fun _ => (fault_ok A h).to ?_⟩
  rintro _ m4 ⟨rfl, h4, f4⟩
  refine ⟨rfl, e203 m4 _ h4 f4 (fun q => ?_)⟩
  unfold fltF at q
  by_cases hq : w = -1
  · exact hq
  · rw [if_neg hq] at q
    exact q
theorem lgI.fx {m3 m4 : Wm} (I : lgI m m3) (f : Fx (RS [22]) m3 m4) : lgI m m4 := by
  obtain ⟨w0, f0, e0, g0⟩ := I
  exact ⟨w0.fx f, f0.tr f (RS_sub rfl), by rw [f.at (a := 187) (k := 14) (by decide)]; exact e0, by rw [f.at (a := 187) (k := 10) (by decide), f.at (a := 187) (k := 11) (by decide)]; exact g0⟩
theorem lg_loop {ty e : Nat} {tx : Nat → Int32} (A : PA 195 80 ty 76 e) : ∀ (k : Nat) (x1 x4 x5 : Int32) (fr th p : Nat) (w : Int32) (m3 : Wm), e - p < k → PS 195 ty 76 e tx p w m3 → lgV w x1 x4 fr th → lgI m m3 → AW ad E0 μX12_league (d + 4 + 1) (lgQ m) 57 [(0, .ref (ad 187)), (1, .int x1), (2, .int (nI fr)), (3, .int (nI th)), (4, .int x4), (5, .int x5), (6, .int 1)] [] m3 := by
  intro k
  induction k with
  | zero => intros; omega
  | succ k ih =>
    intro x1 x4 x5 fr th p w m3 hk h V I
    have e80 : e ≤ 80 := by have := A.2.2.2.1; have := A.2.2.2.2.1; omega
    -- the next round of the loop, or the end
    have nx : ∀ (x1 x4 x5 : Int32) (fr th p' : Nat) (w' : Int32) (m4 : Wm), p ≤ p' → PS 195 ty 76 e tx p' w' m4 → lgV w' x1 x4 fr th → lgI m m4 → Ct ad μX12_passes (d + 4) [.ref (ad 187), .int 59] m4 (fun r m10 => ∃ v11 : Int32, r = some (.int v11) ∧ AW ad E0 μX12_league (d + 4 + 1) (lgQ m) 57 [(0, .ref (ad 187)), (1, .int x1), (2, .int (nI fr)), (3, .int (nI th)), (4, .int x4), (5, .int x5), (6, .int v11)] [] m10) := by
      intro x1 x4 x5 fr th p' w' m4 hp h4 V4 I4
      refine (passes_ok A h4 (by decide)).to ?_
      rintro _ m5 ⟨rfl, h5, f5⟩
      by_cases h59 : passF tx e 59 (p', w') = true
      · rw [if_pos h59] at h5 ⊢
        have hlt : p' < e := pass_lt h59 (by decide)
        exact ⟨1, rfl, ih x1 x4 x5 fr th (p' + 1) w' m5 (by omega) h5 V4 (I4.fx f5)⟩
      · rw [if_neg h59] at h5 ⊢
        exact ⟨0, rfl, g_X12_league_57 ⟨fun _ => lg_end (d := d + 3) A h5 V4 (I4.fx f5), fun c => absurd rfl c⟩⟩
    refine g_X12_league_57 ⟨fun c => absurd c (by decide), fun _ => (fine_ok h).to ?_⟩
    rintro _ m' ⟨eq, rfl⟩
    obtain rfl := eq.symm
    refine ⟨_, rfl, fun _ => lg_end (d := d + 3) A h V I, fun _ => (passes_ok A h (by decide)).to ?_⟩
    rintro _ m4 ⟨rfl, h4, f4⟩
    have I4 := I.fx f4
    refine ⟨_, rfl, fun c => ?_, fun c => ?_⟩
    · have hn : ¬ passF tx e 119 (p, w) = true := (bz_if rfl).1 c
      rw [if_neg hn] at h4
      refine ⟨fun c8 => ?_, fun c8 => ?_⟩
      · have th7 : th ≤ 7 := by
          have : th ≠ 8 := fun q => c8 (by rw [q]; rfl)
          have := V.2.2
          omega
        have L : ∀ (j a p' : Nat) (w' : Int32) (m5 : Wm), a + j = 4 → p ≤ p' → PS 195 ty 76 e tx p' w' m5 → (w' = -1 → w = -1) → lgI m m5 → AW ad E0 μX12_league (d + 4 + 1) (lgQ m) 115 [(0, .ref (ad 187)), (1, .int x1), (2, .int (nI fr)), (3, .int (nI th)), (4, .int x4), (5, .int x5), (7, .int (nI a))] [] m5 := by
          intro j
          induction j with
          | zero =>
            intro a p' w' m5 ha hp h5 hw I5
            refine g_X12_league_115 ⟨fun _ => (passes_ok A h5 (by decide)).to ?_, fun q => absurd ((le_l 4 4 rfl (by omega) (by omega)).mpr (by omega)) q⟩
            rintro _ m6 ⟨rfl, h6, f6⟩
            have I6 := I5.fx f6
            refine ⟨_, rfl, nat_in (by omega) (by decide), ?_⟩
            rw [nI_1]
            obtain ⟨i1, i2, i3, i4⟩ := I6
            refine nx x1 x4 (x5 + 1) fr (th + 1) _ w' _ ?_ (h6.u (by decide) (by decide)) ⟨fun q => V.1 (hw q), V.2.1, by omega⟩ ⟨i1.n rfl, i2.i rfl, i3, i4⟩
            split <;> omega
          | succ j ih2 =>
            intro a p' w' m5 ha hp h5 hw I5
            have l4 : (4 : Int32) * nI th + nI a = nI (4 * th + a) := by rw [l_mul 4 4 rfl, nI_add]
            refine g_X12_league_115 ⟨fun q => absurd ((le_l 4 4 rfl (by omega) (by omega)).mp q) (by omega), fun _ => ?_⟩
            rw [l4, nI_1]
            refine ⟨fun _ => ⟨nat_in (by omega) (by decide), ?_⟩, fun _ => (digit_ok A h5 (lo := 0) (hi := 7) (by decide)).to ?_⟩
            · obtain ⟨i1, i2, i3, i4⟩ := I5
              exact ih2 (a + 1) p' w' _ (by omega) hp (h5.u (by decide) (by decide)) hw ⟨i1.n rfl, i2.i rfl, i3, i4⟩
            · rintro _ m6 ⟨rfl, h6, f6⟩
              have I6 := I5.fx f6
              have g1 := dig_1 (tx := tx) (e := e) (lo := 0) (hi := 7) (s := (p', w'))
              have g2 := dig_2 (tx := tx) (e := e) (lo := 0) (hi := 7) (s := (p', w')) (by have := h5.small A; show p' < _; omega)
              generalize digF tx e 0 7 (p', w') = D at h6 g1 g2 ⊢
              obtain ⟨v, q, u⟩ := D
              dsimp only at h6 g1 g2 ⊢
              obtain ⟨i1, i2, i3, i4⟩ := I6
              exact ⟨v, rfl, nat_in (by omega) (by decide), ih2 (a + 1) q u _ (by omega) (by omega) (h6.u (by decide) (by decide)) (fun z => hw (g2 z).1) ⟨i1.n rfl, i2.i rfl, i3, i4⟩⟩
        exact L 4 0 p w m4 (by decide) (Nat.le_refl _) h4 (fun q => q) I4
      · rw [h4.2.2.2.1]
        refine (fault_ok A h4).to ?_
        rintro _ m5 ⟨rfl, h5, f5⟩
        refine ⟨rfl, nx x1 x4 (x5 + 1) fr th p _ m5 (Nat.le_refl _) h5 ⟨fun q => (flt_2 (p := p) (w := w) q (by have := h.small A; omega)).elim, V.2.1, V.2.2⟩ (I4.fx f5)⟩
    · have hy : passF tx e 119 (p, w) = true := (bz_if rfl).2 c
      rw [if_pos hy] at h4
      refine (digit_ok A h4 (lo := 1) (hi := 4) (by decide)).to ?_
      rintro _ m6 ⟨rfl, h6, f6⟩
      have I6 := I4.fx f6
      have g1 := dig_1 (tx := tx) (e := e) (lo := 1) (hi := 4) (s := (p + 1, w))
      have g2 := dig_2 (tx := tx) (e := e) (lo := 1) (hi := 4) (s := (p + 1, w)) (by have := h4.small A; show p + 1 < _; omega)
      generalize digF tx e 1 4 (p + 1, w) = D at h6 g1 g2 ⊢
      obtain ⟨v, q, u⟩ := D
      dsimp only at h6 g1 g2 ⊢
      refine ⟨v, rfl, nx v 1 (x5 + 1) 0 0 q u m6 (by omega) h6 ⟨fun z => Or.inr ?_, by decide, by decide⟩ I6⟩
      obtain ⟨-, b2, b3, b4⟩ := g2 z
      have e1 : v = hrF tx e (p + 1) - 48 := congrArg Prod.fst b2
      have := dig_v (l := 1) (u := 4) rfl rfl (by decide) (by decide) b3 b4
      rw [e1]
      exact this
theorem s_X12_league (w : WT m) : Ct ad μX12_league (d + 5) [.ref (ad 187)] m (lgQ m) := by
  obtain ⟨n, en, -, n1, n2, n3⟩ := w.nat (a := 187) (k := 1) rfl (by decide)
  obtain ⟨ty, ety, -, y1, y2, y3⟩ := w.nat (a := 187) (k := 14) rfl (by decide)
  have w0 : WT (uI m 187 17 0) := w.n rfl
  have A := pa_text (n := ty) (t := 76) (by omega) (by decide)
  have he80 : minT ty 76 ≤ 80 := by unfold minT; split <;> omega
  refine v_X12_league (d := d + 4) ((begin_ok (na := 80) rfl).to ?_)
  rintro _ m1 ⟨rfl, e1⟩
  have e1' : m1 = bgM (uI m 187 17 0) 195 (nI ty) (nI 76) := by rw [e1]; show _ = bgM _ _ (nI ty) _; rw [← ety]; rfl
  subst e1'
  clear e1
  have f1 : Fx (RS [22]) (uI m 187 17 0) (bgM (uI m 187 17 0) 195 (nI ty) (nI 76)) := bg_fx
  have P1 : PS 195 ty 76 (minT ty 76) ((uI m 187 17 0).1 195) 0 (-1) (bgM (uI m 187 17 0) 195 (nI ty) (nI 76)) := bg_ps he80 (by decide)
  have w1 := w0.fx f1
  generalize bgM (uI m 187 17 0) 195 (nI ty) (nI 76) = mb at f1 P1 w1 ⊢
  have w2 : WT (uI mb 187 14 0) := w1.t rfl (by decide) (by decide)
  have P2 : PS 195 ty 76 (minT ty 76) ((uI m 187 17 0).1 195) 0 (-1) (uI mb 187 14 0) := by
    obtain ⟨b1, b2, b3, b4, b5, b6, b7⟩ := P1
    exact ⟨b1, b2, b3, b4, b5, b6, fun k hk => b7 k hk⟩
  have F2 : Fx (RS [20, 21, 22, 23, 24, 25, 27, 29, 39, 45, 46, 52]) m (uI mb 187 14 0) := (((Fx.rf (S := RS [20, 21, 22, 23, 24, 25, 27, 29, 39, 45, 46, 52]) (m := m)).i (a := 187) (k := 17) (v := 0) rfl).tr f1 (RS_sub rfl)).i rfl
  have I2 : lgI m (uI mb 187 14 0) := ⟨w2, F2, rfl, Or.inl ⟨f1.at (a := 187) (k := 10) (by decide), f1.at (a := 187) (k := 11) (by decide)⟩⟩
  have h01 : (uI mb 187 14 0).1 187 1 = nI n := (f1.at (a := 187) (k := 1) (by decide)).trans en
  generalize uI mb 187 14 0 = mc at w2 P2 F2 I2 h01 ⊢
  refine ⟨rfl, fun _ => ?_, fun _ => ⟨I2.1, I2.2.1, ⟨_, rfl⟩, I2.2.2.1, I2.2.2.2⟩⟩
  rw [h01]
  exact lg_loop A 81 _ 0 0 n n 0 (-1) mc (by omega) P2 ⟨fun _ => Or.inl rfl, by omega, by omega⟩ I2
end LGM
end
section
/-! THE CIRCLE (model): at least one game in the first round -/
section CIR
variable {ad : Nat → Nat} {d : Nat} {m : Wm}
theorem nI_sb {a b : Nat} (h : b ≤ a) (ha : a < 2147483648) : nI a - nI b = nI (a - b) := by
  refine (fa_eq _ _).mpr ?_
  have e1 : (nI a).toInt = (a : Int) := nI_toInt ha
  have e2 : (nI b).toInt = (b : Int) := nI_toInt (by omega)
  rw [ti_sub (by omega), e1, e2, nI_toInt (by omega)]
  omega
theorem nI_dn {a : Nat} (ha : a + 1 < 2147483648) : nI (a + 1) + (-1) = nI a := by
  refine (fa_eq _ _).mpr ?_
  have e1 : (nI (a + 1)).toInt = ((a + 1 : Nat) : Int) := nI_toInt ha
  rw [ti_addc (c := -1) rfl (by omega), e1, nI_toInt (by omega)]
  omega
theorem isS {x : Int32} {sd : Nat} (h1 : 1 ≤ sd) (hs : sd ≤ 8) : (0 ≤ x ∧ x ≤ nI sd - 1) ↔ (0 ≤ x.toInt ∧ x.toInt < (sd : Int)) := by
  have z0 : (0 : Int32).toInt = 0 := rfl
  have e1 : nI sd - 1 = nI (sd - 1) := nI_sb (b := 1) h1 (by omega)
  have e2 : (nI (sd - 1)).toInt = ((sd - 1 : Nat) : Int) := nI_toInt (by omega)
  rw [e1]
  constructor
  · intro ⟨a, b⟩
    have := z_le a
    have := z_le b
    omega
  · intro ⟨a, b⟩
    exact ⟨Int32.le_iff_toInt_le.mpr (by omega), Int32.le_iff_toInt_le.mpr (by omega)⟩
def ciQ (m : Wm) (r : Option Value) (m' : Wm) : Prop := WT m' ∧ Fx (RS [20, 25, 32, 52, 55]) m m' ∧ (∃ v : Int32, r = some (.int v)) ∧ ((m'.1 187 10 = m.1 187 10 ∧ m'.1 187 11 = m.1 187 11) ∨ 1 ≤ (m'.1 187 10).toInt)
theorem s_X12_circle (w : WT m) : Ct ad μX12_circle (d + 2) [.ref (ad 187)] m (ciQ m) := by
  obtain ⟨sd, es, -, s1, s2, s3⟩ := w.nat (a := 187) (k := 1) rfl (by decide)
  have sd8 : sd ≤ 8 := by omega
  have z0 : (0 : Int32).toInt = 0 := rfl
  have z1 : (1 : Int32).toInt = 1 := rfl
  have w0 : WT (uI m 187 17 0) := w.n rfl
  have F0 : Fx (RS [20, 25, 32, 52, 55]) m (uI m 187 17 0) := (Fx.rf (S := RS [20, 25, 32, 52, 55]) (m := m)).i (a := 187) (k := 17) rfl
  refine v_X12_circle (d := d + 1) ⟨fun c => ?_, fun _ => ⟨w0, F0, ⟨_, rfl⟩, Or.inl ⟨rfl, rfl⟩⟩⟩
  have es0 : (uI m 187 17 0).1 187 1 = nI sd := es
  rw [es0] at c ⊢
  have hsd : 2 ≤ sd := (le_l 2 2 rfl (by omega) (by omega)).mp c
  have er : nI sd - nI sd / 2 * 2 = nI (sd % 2) := nI_rem (g := sd) (G := 2) (by omega) (by decide) (by decide)
  rw [er, nI_add]
  obtain ⟨n, hn⟩ : ∃ n, sd + sd % 2 = n := ⟨_, rfl⟩
  rw [hn]
  have n8 : n ≤ 8 := by omega
  have n2 : 2 ≤ n := by omega
  have ne : n = 2 * (n / 2) := by omega
  have nn1 : nI n - 1 = nI (n - 1) := nI_sb (b := 1) (by omega) (by omega)
  have nh : nI n / 2 = nI (n / 2) := pk_div (a := n) (d := 2) (by omega) (by decide) (by decide)
  have sid : ∀ m1, Fx (RS [20, 25, 32, 52, 55]) m m1 → m1.1 187 1 = nI sd := fun m1 f1 => (f1.at (by decide)).trans es
  -- the rounds
  have R : ∀ (i r g : Nat) (m1 : Wm), r + i = n - 1 → WT m1 → Fx (RS [20, 25, 32, 52, 55]) m m1 → m1.1 187 10 = nI g → g ≤ 4 * r → (r = 0 → ∀ k, k < n → m1.1 203 k = nI k) → (1 ≤ r → 1 ≤ g) → AW ad E0 μX12_circle (d + 1 + 1) (ciQ m) 54 [(0, .ref (ad 187)), (1, .int (nI n)), (2, .int (nI r))] [] m1 := by
    intro i
    induction i with
    | zero =>
      intro r g m1 hr w1 f1 e10 hg hid h1g
      refine g_X12_circle_54 ?_
      rw [nn1]
      refine ⟨fun _ => ⟨(w1.t rfl (by rw [nI_toInt (by omega)]; omega) (by rw [nI_toInt (by omega)]; omega)).n rfl, (f1.i rfl).i rfl, ⟨_, rfl⟩, Or.inr ?_⟩, fun c => absurd ((nI_leI (by omega) (by omega)).mpr (by omega)) c⟩
      show 1 ≤ (m1.1 187 10).toInt
      rw [e10, nI_toInt (by omega)]
      have := h1g (by omega)
      omega
    | succ i ih =>
      intro r g m1 hr w1 f1 e10 hg hid h1g
      refine g_X12_circle_54 ?_
      rw [nn1]
      refine ⟨fun c => absurd ((nI_leI (by omega) (by omega)).mp c) (by omega), fun _ => ?_⟩
      -- the places move
      have L197 : ∀ (j : Nat) (x3 : Int32) (m2 : Wm), j + 1 ≤ n - 1 → 0 ≤ x3.toInt → x3.toInt ≤ 8 → ∀ g2, WT m2 → Fx (RS [20, 25, 32, 52, 55]) m m2 → m2.1 187 10 = nI g2 → g2 ≤ 4 * (r + 1) → 1 ≤ g2 → AW ad E0 μX12_circle (d + 1 + 1) (ciQ m) 197 [(0, .ref (ad 187)), (1, .int (nI n)), (2, .int (nI r)), (3, .int x3), (4, .int (nI (j + 1)))] [] m2 := by
        intro j
        induction j with
        | zero =>
          intro x3 m2 hj a1 a2 g2 w2 f2 e2 h2 h3
          refine g_X12_circle_197 ⟨fun _ => ?_, fun c => absurd (by decide) c⟩
          rw [nI_1]
          exact ih (r + 1) g2 _ (by omega) (w2.t rfl a1 a2) (f2.i rfl) e2 h2 (fun q => absurd q (by omega)) (fun _ => h3)
        | succ j ih2 =>
          intro x3 m2 hj a1 a2 g2 w2 f2 e2 h2 h3
          have q1 : nI (j + 1 + 1) - 1 = nI (j + 1) := nI_sb (b := 1) (by omega) (by omega)
          refine g_X12_circle_197 ?_
          rw [q1, nI_dn (by omega), nI_clamp (by omega), nI_clamp (by omega)]
          refine ⟨fun c => absurd ((l_le 1 1 rfl (by omega) (by omega)).mp c) (by omega), fun _ => ⟨nat_in (by omega) (by decide), nat_in (by omega) (by decide), ?_⟩⟩
          have t := w2.at (a := 203) (k := j + 1) rfl
          exact ih2 x3 _ (by omega) a1 a2 g2 (w2.t rfl t.1 t.2) (f2.i rfl) e2 h2 h3
      -- the games of the round
      have L63 : ∀ (j p g2 : Nat) (m2 : Wm), p + j = n / 2 → WT m2 → Fx (RS [20, 25, 32, 52, 55]) m m2 → m2.1 187 10 = nI g2 → g2 ≤ 4 * r + p → (1 ≤ r → 1 ≤ g2) → (r = 0 → (∀ k, k < n → m2.1 203 k = nI k) ∧ (1 ≤ g2 ∨ p = 0 ∨ (p = 1 ∧ n = sd + 1))) → AW ad E0 μX12_circle (d + 1 + 1) (ciQ m) 63 [(0, .ref (ad 187)), (1, .int (nI n)), (2, .int (nI r)), (3, .int (nI p))] [] m2 := by
        intro j
        induction j with
        | zero =>
          intro p g2 m2 hp w2 f2 e2 h2 h3 h4
          refine g_X12_circle_63 ?_
          rw [nh, nn1, nI_clamp (by omega)]
          refine ⟨fun _ => ⟨nat_in (by omega) (by decide), ?_⟩, fun c => absurd ((nI_leI (by omega) (by omega)).mpr (by omega)) c⟩
          have t := w2.at (a := 203) (k := n - 1) rfl
          obtain ⟨b, hb⟩ : ∃ b, n - 1 = b + 1 := ⟨n - 2, by omega⟩
          rw [hb] at t ⊢
          refine L197 b _ m2 (by omega) t.1 t.2 g2 w2 f2 e2 (by omega) ?_
          by_cases hr0 : r = 0
          · rcases (h4 hr0).2 with q | q | q
            · exact q
            · omega
            · omega
          · exact h3 (by omega)
        | succ j ih2 =>
          intro p g2 m2 hp w2 f2 e2 h2 h3 h4
          have tp := w2.at (a := 203) (k := p) rfl
          have tq := w2.at (a := 203) (k := n - 1 - p) rfl
          have sub : nI (n - 1) - nI p = nI (n - 1 - p) := nI_sb (by omega) (by omega)
          have es2 := sid m2 f2
          refine g_X12_circle_63 ?_
          rw [nh, nn1, sub, nI_1, nI_clamp (n := p) (by omega), nI_clamp (n := n - 1 - p) (by omega)]
          refine ⟨fun c => absurd ((nI_leI (by omega) (by omega)).mp c) (by omega), fun _ => ⟨nat_in (by omega) (by decide), nat_in (by omega) (by decide), (isSide_c es2).to ?_⟩⟩
          rintro _ m' ⟨eq, rfl⟩
          obtain rfl := eq.symm
          -- no game here
          have no : (r = 0 → ¬ ((p < sd) ∧ (n - 1 - p < sd))) → AW ad E0 μX12_circle (d + 1 + 1) (ciQ m) 63 [(0, .ref (ad 187)), (1, .int (nI n)), (2, .int (nI r)), (3, .int (nI (p + 1)))] [] m2 := by
            intro hno
            refine ih2 (p + 1) g2 m2 (by omega) w2 f2 e2 (by omega) h3 (fun hr0 => ⟨(h4 hr0).1, ?_⟩)
            have := hno hr0
            rcases (h4 hr0).2 with q | q | q
            · exact Or.inl q
            · exact Or.inr (Or.inr (by omega))
            · omega
          by_cases ha : 0 ≤ m2.1 203 p ∧ m2.1 203 p ≤ nI sd - 1
          · have ha' := (isS (by omega) sd8).mp ha
            refine ⟨1, by rw [if_pos ha], fun c => absurd c (by decide), fun _ => (isSide_c es2).to ?_⟩
            rintro _ m' ⟨eq, rfl⟩
            obtain rfl := eq.symm
            by_cases hb : 0 ≤ m2.1 203 (n - 1 - p) ∧ m2.1 203 (n - 1 - p) ≤ nI sd - 1
            · have hb' := (isS (by omega) sd8).mp hb
              refine ⟨1, by rw [if_pos hb], fun _ => ?_, fun c => absurd c (by decide)⟩
              generalize m2.1 203 p = va at ha' ⊢
              generalize m2.1 203 (n - 1 - p) = vb at hb' ⊢
              show vp_in ((4 : Int32) * (m2.1 187 10)) 160 ∧ vp_in (((4 : Int32) * (m2.1 187 10)) + 1) 160 ∧ vp_in (((4 : Int32) * (m2.1 187 10)) + 2) 160 ∧ vp_in (((4 : Int32) * (m2.1 187 10)) + 3) 160 ∧ AW ad E0 μX12_circle (d + 1 + 1) (ciQ m) 63 [(0, .ref (ad 187)), (1, .int (nI n)), (2, .int (nI r)), (3, .int (nI (p + 1)))] [] (uI (uI (uI (uI (uI m2 194 ((4 : Int32) * (m2.1 187 10)).toNatClampNeg va) 194 (((4 : Int32) * (m2.1 187 10)) + 1).toNatClampNeg vb) 194 (((4 : Int32) * (m2.1 187 10)) + 2).toNatClampNeg 0) 194 (((4 : Int32) * (m2.1 187 10)) + 3).toNatClampNeg (nI r)) 187 10 ((m2.1 187 10) + 1))
              rw [e2]
              have tg : (nI g2).toInt = (g2 : Int) := nI_toInt (by omega)
              have l4 : (4 : Int32) * nI g2 = nI (4 * g2) := l_mul 4 4 rfl g2
              have W : WT (uI (uI (uI (uI m2 194 ((4 : Int32) * nI g2).toNatClampNeg va) 194 (((4 : Int32) * nI g2) + 1).toNatClampNeg vb) 194 (((4 : Int32) * nI g2) + 2).toNatClampNeg 0) 194 (((4 : Int32) * nI g2) + 3).toNatClampNeg (nI r)) :=
                (((w2.up0 (x := nI g2) (v := va) ⟨by omega, by omega⟩ ⟨by omega, by omega⟩).up1 (x := nI g2) (v := vb) ⟨by omega, by omega⟩ ⟨by omega, by omega⟩).up2 (x := nI g2) ⟨by omega, by omega⟩).up3 (x := nI g2) ⟨by omega, by omega⟩
              refine ⟨by rw [l4]; exact nat_in (by omega) (by decide), by rw [l4, nI_1]; exact nat_in (by omega) (by decide), by rw [l4, add_l 2 2 rfl]; exact nat_in (by omega) (by decide), by rw [l4, add_l 3 3 rfl]; exact nat_in (by omega) (by decide), ?_⟩
              rw [nI_1 g2]
              refine ih2 (p + 1) (g2 + 1) _ (by omega) (W.t rfl (by rw [nI_toInt (by omega)]; omega) (by rw [nI_toInt (by omega)]; omega)) (((((f2.i rfl).i rfl).i rfl).i rfl).i rfl) rfl (by omega) (fun _ => by omega) (fun hr0 => ⟨(h4 hr0).1, Or.inl (by omega)⟩)
            · refine ⟨0, by rw [if_neg hb], fun c => absurd rfl c, fun _ => no (fun hr0 q => hb ((isS (by omega) sd8).mpr ?_))⟩
              rw [(h4 hr0).1 (n - 1 - p) (by omega), nI_toInt (by omega)]
              omega
          · refine ⟨0, by rw [if_neg ha], fun _ => no (fun hr0 q => ha ((isS (by omega) sd8).mpr ?_)), fun c => absurd rfl c⟩
            rw [(h4 hr0).1 p (by omega), nI_toInt (by omega)]
            omega
      exact L63 (n / 2) 0 g m1 (by omega) w1 f1 e10 (by omega) h1g (fun hr0 => ⟨hid hr0, Or.inr (Or.inl rfl)⟩)
  have L29 : ∀ (j k : Nat) (m1 : Wm), k + j = n → WT m1 → Fx (RS [20, 25, 32, 52, 55]) m m1 → (∀ i, i < k → m1.1 203 i = nI i) → AW ad E0 μX12_circle (d + 1 + 1) (ciQ m) 29 [(0, .ref (ad 187)), (1, .int (nI n)), (2, .int (nI k))] [] m1 := by
    intro j
    induction j with
    | zero =>
      intro k m1 hk w1 f1 h
      refine g_X12_circle_29 ⟨fun _ => ?_, fun c => absurd ((nI_leI (by omega) (by omega)).mpr (by omega)) c⟩
      exact R (n - 1) 0 0 _ (by omega) (w1.t rfl (by decide) (by decide)) (f1.i rfl) rfl (by decide) (fun _ i hi => h i (by omega)) (fun q => absurd q (by decide))
    | succ j ih =>
      intro k m1 hk w1 f1 h
      refine g_X12_circle_29 ⟨fun c => absurd ((nI_leI (by omega) (by omega)).mp c) (by omega), fun _ => ⟨nat_in (by omega) (by decide), ?_⟩⟩
      rw [nI_1, nI_clamp (by omega)]
      refine ih (k + 1) _ (by omega) (w1.t rfl (by rw [nI_toInt (by omega)]; omega) (by rw [nI_toInt (by omega)]; omega)) (f1.i rfl) (fun i hi => ?_)
      show (if 203 = 203 ∧ i = k then nI k else m1.1 203 i) = nI i
      by_cases hik : i = k
      · rw [if_pos ⟨rfl, hik⟩, hik]
      · rw [if_neg (fun q => hik q.2)]
        exact h i (by omega)
  exact L29 n 0 _ (by omega) w0 F0 (fun i hi => absurd hi (by omega))
end CIR
end
section
/-! THE TEXT: what the class holds as chars, the model holds as bytes -/
def CH (c b : Int32) : Prop := (0 ≤ b.toInt ∧ b.toInt ≤ 127 ∧ c = b) ∨ (b.toInt < 0 ∧ 128 ≤ c.toInt ∧ c.toInt ≤ 255)
theorem ch_of {x s1 s2 : Int32} {k : Nat} (h1 : ((s1.toUInt32 &&& Int32.toUInt32 31).toBitVec % 32).toNat = k) (h2 : (s2.toBitVec.smod 32).toNat = k) (hk : k = 0 ∨ k = 8 ∨ k = 16 ∨ k = 24) :
    CH (vp_nar .char ((((x.toUInt32 >>> (s1.toUInt32 &&& Int32.toUInt32 31)).toInt32 &&& (255 : Int32)).toUInt32 % 65536).toInt32)) (vp_nar .byte ((x >>> s2).toInt8.toInt32)) := by
  rw [pk_vb, pk_vc]
  obtain ⟨n, hn, rfl⟩ := wb_of32 x
  have e1 : ((nI n).toUInt32 >>> (s1.toUInt32 &&& Int32.toUInt32 31)).toInt32 = nI (n / 2 ^ k) := pk_ushrN hn s1 k h1
  rw [e1, show (255 : Int32) = nI (2 ^ 8 - 1) from rfl, fa_mask]
  have hc : n / 2 ^ k % 2 ^ 8 < 256 := Nat.mod_lt _ (by decide)
  have e2 : ((nI (n / 2 ^ k % 2 ^ 8)).toUInt32 % 65536).toInt32 = nI (n / 2 ^ k % 2 ^ 8) := by
    generalize n / 2 ^ k % 2 ^ 8 = q at hc
    have h3 : ∀ q : Fin 256, ((nI q.val).toUInt32 % 65536).toInt32 = nI q.val := by decide +kernel
    exact h3 ⟨q, hc⟩
  rw [e2]
  have e3 : ((nI n >>> s2).toInt8.toInt32).toInt = ((nI n).toInt >>> k).bmod (2 ^ 8) := by rw [Int8.toInt_toInt32, Int32.toInt_toInt8, pk_shr _ _ k h2]
  have e4 : (nI (n / 2 ^ k % 2 ^ 8)).toInt = ((n / 2 ^ k % 2 ^ 8 : Nat) : Int) := nI_toInt (by omega)
  have e5 : (nI n).toInt = (n : Int) ∨ (nI n).toInt = (n : Int) - 4294967296 := by
    by_cases h : n < 2147483648
    · exact Or.inl (nI_toInt h)
    · refine Or.inr ?_
      have h5 : (nI n).toInt = (n : Int).bmod (2 ^ 32) := Int32.toInt_ofNat'
      rw [h5, Int.bmod_def]
      rw [if_neg (by omega)]
      omega
  have e6 : ((nI n >>> s2).toInt8.toInt32).toInt = if ((n / 2 ^ k % 2 ^ 8 : Nat) : Int) < 128 then ((n / 2 ^ k % 2 ^ 8 : Nat) : Int) else ((n / 2 ^ k % 2 ^ 8 : Nat) : Int) - 256 := by
    rw [e3, Int.shiftRight_eq_div_pow, Int.bmod_def]
    have e7 : ((nI n).toInt / ((2 ^ k : Nat) : Int)) % ((2 ^ 8 : Nat) : Int) = ((n / 2 ^ k % 2 ^ 8 : Nat) : Int) := by
      rcases hk with rfl | rfl | rfl | rfl <;> rcases e5 with e | e <;> rw [e] <;> omega
    rw [e7]
    rfl
  generalize n / 2 ^ k % 2 ^ 8 = q at hc e4 e6
  generalize (nI n >>> s2).toInt8.toInt32 = b at e6
  by_cases hq : q < 128
  · rw [if_pos (by omega)] at e6
    exact Or.inl ⟨by omega, by omega, (fa_eq _ _).mpr (by omega)⟩
  · rw [if_neg (by omega)] at e6
    exact Or.inr ⟨by omega, by omega, by omega⟩
/-- a sign of the text is the same small number on both sides, or none on both -/
theorem CH.eq {c b t : Int32} (h : CH c b) (h0 : 0 ≤ t.toInt) (h1 : t.toInt ≤ 127) : c = t ↔ b = t := by
  rw [fa_eq, fa_eq b t]
  rcases h with ⟨a1, a2, rfl⟩ | ⟨a1, a2, a3⟩
  · exact Iff.rfl
  · constructor <;> intro q <;> omega
theorem CH.sb {c b t : Int32} (h : CH c b) (h0 : t.toInt = 48) (lo hi : Int) (hl : 0 ≤ lo) (hh : hi ≤ 50) : (lo ≤ (c - t).toInt ∧ (c - t).toInt ≤ hi) ↔ (lo ≤ (b - t).toInt ∧ (b - t).toInt ≤ hi) := by
  rcases h with ⟨a1, a2, rfl⟩ | ⟨a1, a2, a3⟩
  · exact Iff.rfl
  · have r := fb_rng b
    have e1 : (c - t).toInt = c.toInt - 48 := by rw [← h0]; exact ti_sub (by omega)
    have e2 : (b - t).toInt = b.toInt - 48 ∨ (b - t).toInt = b.toInt - 48 + 4294967296 := by
      rw [Int32.toInt_sub, h0, Int.bmod_def]
      by_cases hb : -2147483600 ≤ b.toInt
      · left; omega
      · right; omega
    constructor
    · intro q; omega
    · intro q; omega
theorem u_ne {m : Wm} {a k b j : Nat} {v : Int32} (h : ¬ (b = a ∧ j = k)) : (uI m a k v).1 b j = m.1 b j := if_neg h
theorem u_eq {m : Wm} {a k : Nat} {v : Int32} : (uI m a k v).1 a k = v := if_pos ⟨rfl, rfl⟩
section TXS
variable {ad : Nat → Nat} {d : Nat} {m : Wm}
def CHR (x : Int32) (k : Nat) : Int32 := vp_nar .char (((((x.toUInt32 >>> (((24 : Int32) - ((8 : Int32) * nI k)).toUInt32 &&& Int32.toUInt32 31)).toInt32) &&& (255 : Int32)).toUInt32 % 65536).toInt32)
def BYR (x : Int32) (k : Nat) : Int32 := vp_nar .byte ((x >>> (((8 : Int32) * (3 - nI k)) &&& 31)).toInt8.toInt32)
theorem ch_k (x : Int32) {k : Nat} (hk : k < 4) : CH (CHR x k) (BYR x k) := by
  have h1 : ∀ k : Fin 4, (((((24 : Int32) - ((8 : Int32) * nI k.val))).toUInt32 &&& Int32.toUInt32 31).toBitVec % 32).toNat = 24 - 8 * k.val := by decide +kernel
  have h2 : ∀ k : Fin 4, ((((8 : Int32) * (3 - nI k.val)) &&& 31).toBitVec.smod 32).toNat = 24 - 8 * k.val := by decide +kernel
  exact ch_of (h1 ⟨k, hk⟩) (h2 ⟨k, hk⟩) (by show 24 - 8 * k = 0 ∨ 24 - 8 * k = 8 ∨ 24 - 8 * k = 16 ∨ 24 - 8 * k = 24; omega)
theorem e_add {n : Nat} {x : Int32} (w : WT m) (hn : m.1 1 1 = nI n) (hn76 : n ≤ 76) : Ct ad μX10_add d [.ref (ad 1), .int x] m (fun r m' => r = some (.int 1) ∧ m'.1 1 1 = nI (n + 4) ∧ (∀ k, k < n → m'.1 2 k = m.1 2 k) ∧ (∀ k, k < 4 → m'.1 2 (n + k) = CHR x k) ∧ WT m' ∧ Fx (RS [0]) m m') := by
  have L : ∀ (j i : Nat) (m1 : Wm), i + j = 4 → m1.1 1 1 = nI (n + i) → (∀ k, k < n → m1.1 2 k = m.1 2 k) → (∀ k, k < i → m1.1 2 (n + k) = CHR x k) → WT m1 → Fx (RS [0]) m m1 →
      AW ad E0 μX10_add d (fun r m' => r = some (.int 1) ∧ m'.1 1 1 = nI (n + 4) ∧ (∀ k, k < n → m'.1 2 k = m.1 2 k) ∧ (∀ k, k < 4 → m'.1 2 (n + k) = CHR x k) ∧ WT m' ∧ Fx (RS [0]) m m') 13 [(0, .ref (ad 1)), (1, .int x), (2, .int (nI i))] [] m1 := by
    intro j
    induction j with
    | zero =>
      intro i m1 hi h1 h2 h3 w1 f1
      have hi4 : i = 4 := hi
      subst hi4
      exact g_X10_add_13 ⟨fun _ => ⟨rfl, h1, h2, h3, w1, f1⟩, fun c => absurd (by decide) c⟩
    | succ j ih =>
      intro i m1 hi h1 h2 h3 w1 f1
      refine g_X10_add_13 ⟨fun c => absurd ((le_l 4 4 rfl (by decide) (by omega)).mp c) (by omega), fun _ => ⟨?_, ?_⟩⟩
      · rw [h1]; exact nat_in (by omega) (by decide)
      · have e1 : nI i + 1 = nI (i + 1) := nI_1 i
        rw [e1, h1, nI_clamp (by omega)]
        refine ih (i + 1) _ (by omega) ?_ ?_ ?_ ?_ ?_
        · show m1.1 1 1 + 1 = nI (n + (i + 1))
          rw [h1, nI_1]
          rfl
        · intro k hk
          exact (u_ne (by omega)).trans ((u_ne (by omega)).trans (h2 k hk))
        · intro k hk
          refine (u_ne (by omega)).trans ?_
          by_cases hki : k = i
          · subst hki
            exact u_eq
          · exact (u_ne (by omega)).trans (h3 k (by omega))
        · refine (w1.n rfl).t rfl ?_ ?_
          · show (0 : Int) ≤ (m1.1 1 1 + 1).toInt
            rw [h1, nI_1, nI_toInt (by omega)]; omega
          · show (m1.1 1 1 + 1).toInt ≤ 80
            rw [h1, nI_1, nI_toInt (by omega)]; omega
        · exact (f1.i rfl).i rfl
  refine v_X10_add ⟨fun _ => L 4 0 m rfl hn (fun _ _ => rfl) (fun k hk => absurd hk (Nat.not_lt_zero k)) w Fx.rf, fun c => absurd ?_ c⟩
  rw [hn]
  exact nI_le (b := 76) hn76 (by decide)
def TXI (m : Wm) : Prop := m.1 1 1 = m.1 187 14 ∧ ∀ k : Nat, (k : Int) < (m.1 1 1).toInt → CH (m.1 2 k) (m.1 195 k)
theorem e_signC {x : Int32} (w : WT m) {n : Nat} (hn : m.1 1 1 = nI n) (hn80 : n ≤ 80) : Ct ad μX11_sign (d + 1) [.ref (ad 0), .int x] m (fun r m' => WT m' ∧ Fx (RS [0]) m m' ∧ ((n ≤ 76 ∧ r = some (.int (nI (n + 4))) ∧ m'.1 1 1 = nI (n + 4) ∧ (∀ k, k < n → m'.1 2 k = m.1 2 k) ∧ (∀ k, k < 4 → m'.1 2 (n + k) = CHR x k)) ∨ (76 < n ∧ r = some (.int (-1)) ∧ m' = m))) := by
  by_cases h76 : n ≤ 76
  · refine v_X11_sign ((e_add w hn h76).to ?_)
    rintro _ m1 ⟨rfl, h1, h2, h3, w1, f1⟩
    exact ⟨1, rfl, fun c => absurd c (by decide), fun _ => ⟨w1, f1, Or.inl ⟨h76, by rw [h1], h1, h2, h3⟩⟩⟩
  · have hc : ¬ m.1 1 1 ≤ (76 : Int32) := by
      rw [hn]
      exact fun q => h76 ((l_le 76 76 rfl (by decide) (by omega)).mp q)
    exact v_X11_sign (v_X10_add ⟨fun q => absurd q hc, fun _ => ⟨0, rfl, fun _ => ⟨w, Fx.rf, Or.inr ⟨by omega, rfl, rfl⟩⟩, fun q => absurd rfl q⟩⟩)
theorem e_signM {x : Int32} (w : WT m) {n : Nat} (hn : m.1 187 14 = nI n) (hn80 : n ≤ 80) : Ct ad μX12_sign d [.ref (ad 187), .int x] m (fun r m' => WT m' ∧ Fx (RS [20, 21]) m m' ∧ ((n ≤ 76 ∧ r = some (.int (nI (n + 4))) ∧ m'.1 187 14 = nI (n + 4) ∧ (∀ k, k < n → m'.1 195 k = m.1 195 k) ∧ (∀ k, k < 4 → m'.1 195 (n + k) = BYR x k)) ∨ (76 < n ∧ r = some (.int (-1)) ∧ m'.1 187 14 = nI n ∧ (∀ k, k < n → m'.1 195 k = m.1 195 k)))) := by
  have w0 : WT (uI m 187 17 0) := w.n rfl
  have e4 : (uI m 187 17 0).1 187 14 = nI n := hn
  have ea : nI n + 4 = nI (n + 4) := add_l 4 4 rfl n
  refine v_X12_sign ⟨fun c => ?_, fun c => ?_⟩
  · have h76 : n ≤ 76 := by
      rw [e4, ea] at c
      have := (l_le 80 80 rfl (by decide) (by omega)).mp c
      omega
    have L : ∀ (j i : Nat) (m1 : Wm), i + j = 4 → m1.1 187 14 = nI (n + i) → (∀ k, k < n → m1.1 195 k = m.1 195 k) → (∀ k, k < i → m1.1 195 (n + k) = BYR x k) → WT m1 → Fx (RS [20, 21]) m m1 →
        AW ad E0 μX12_sign d (fun r m' => WT m' ∧ Fx (RS [20, 21]) m m' ∧ ((n ≤ 76 ∧ r = some (.int (nI (n + 4))) ∧ m'.1 187 14 = nI (n + 4) ∧ (∀ k, k < n → m'.1 195 k = m.1 195 k) ∧ (∀ k, k < 4 → m'.1 195 (n + k) = BYR x k)) ∨ (76 < n ∧ r = some (.int (-1)) ∧ m'.1 187 14 = nI n ∧ (∀ k, k < n → m'.1 195 k = m.1 195 k)))) 20 [(0, .ref (ad 187)), (1, .int x), (2, .int (3 - nI i))] [] m1 := by
      intro j
      induction j with
      | zero =>
        intro i m1 hi h1 h2 h3 w1 f1
        have hi4 : i = 4 := hi
        subst hi4
        exact g_X12_sign_20 ⟨fun _ => ⟨w1, f1, Or.inl ⟨h76, by rw [h1], h1, h2, h3⟩⟩, fun c => absurd (by decide) c⟩
      | succ j ih =>
        intro i m1 hi h1 h2 h3 w1 f1
        have hi4 : i < 4 := by omega
        have a1 : ∀ i : Fin 4, ¬ ((3 : Int32) - nI i.val < 0) ∧ (3 : Int32) - nI i.val + (-1) = 3 - nI (i.val + 1) := by decide +kernel
        refine g_X12_sign_20 ⟨fun c => absurd c (a1 ⟨i, hi4⟩).1, fun _ => ⟨?_, ?_⟩⟩
        · rw [h1]; exact nat_in (by omega) (by decide)
        · rw [(a1 ⟨i, hi4⟩).2, h1, nI_clamp (by omega)]
          refine ih (i + 1) _ (by omega) ?_ ?_ ?_ ?_ ?_
          · show nI (n + i) + 1 = nI (n + (i + 1))
            rw [nI_1]
            rfl
          · intro k hk
            exact (u_ne (by omega)).trans ((u_ne (by omega)).trans (h2 k hk))
          · intro k hk
            by_cases hki : k = i
            · subst hki
              exact u_eq
            · exact (u_ne (by omega)).trans ((u_ne (by omega)).trans (h3 k (by omega)))
          · refine (w1.t rfl ?_ ?_).n rfl
            · rw [nI_1, nI_toInt (by omega)]; omega
            · rw [nI_1, nI_toInt (by omega)]; omega
          · exact (f1.i rfl).i rfl
    exact L 4 0 _ rfl e4 (fun _ _ => rfl) (fun k hk => absurd hk (Nat.not_lt_zero k)) w0 (Fx.rf.i rfl)
  · have h76 : 76 < n := by
      rw [e4, ea] at c
      exact Nat.lt_of_not_le (fun q => c ((l_le 80 80 rfl (by decide) (by omega)).mpr (by omega)))
    exact ⟨w0, Fx.rf.i rfl, Or.inr ⟨h76, rfl, e4, fun _ _ => rfl⟩⟩
/-- the text behind both calls of sign() -/
theorem sign_both {x : Int32} (w : WT m) (T : TXI m) : Ct ad μX11_sign (d + 1) [.ref (ad 0), .int x] m (fun r m1 => ∃ v : Int32, r = some (.int v) ∧ WT m1 ∧ Fx (RS [0]) m m1 ∧ Ct ad μX12_sign (d + 1) [.ref (ad 187), .int x] m1 (fun r m2 => r = some (.int v) ∧ WT m2 ∧ Fx (RS [20, 21]) m1 m2 ∧ TXI m2)) := by
  obtain ⟨t1, t2⟩ := T
  obtain ⟨n, hn, -, -, h80, -⟩ := w.nat (a := 1) (k := 1) rfl (by decide)
  have h80' : n ≤ 80 := by omega
  have tn' : (m.1 1 1).toInt = n := by rw [hn]; exact nI_toInt (by omega)
  refine (e_signC w hn h80').to ?_
  rintro r m1 ⟨w1, f1, h⟩
  have g14 : m1.1 187 14 = nI n := (f1.at (a := 187) (k := 14) (by decide)).trans (t1.symm.trans hn)
  have g195 : ∀ k, m1.1 195 k = m.1 195 k := fun k => f1.at (a := 195) (k := k) (by show ¬ (([0] : List Nat).elem 21 = true); decide)
  have h2 : ∀ m2, Fx (RS [20, 21]) m1 m2 → m2.1 1 1 = m1.1 1 1 ∧ ∀ k, m2.1 2 k = m1.1 2 k := fun m2 f2 => ⟨f2.at (a := 1) (k := 1) (by decide), fun k => f2.at (a := 2) (k := k) (by show ¬ (([20, 21] : List Nat).elem 0 = true); decide)⟩
  rcases h with ⟨h76, rfl, a1, a2, a3⟩ | ⟨h76, rfl, rfl⟩
  · refine ⟨_, rfl, w1, f1, (e_signM w1 g14 h80').to ?_⟩
    rintro r m2 ⟨w2, f2, b⟩
    obtain ⟨c1, c2⟩ := h2 m2 f2
    rcases b with ⟨-, rfl, b1, b2, b3⟩ | ⟨q, -⟩
    · refine ⟨rfl, w2, f2, by rw [c1, a1, b1], fun k hk => ?_⟩
      rw [c1, a1, nI_toInt (by omega)] at hk
      rw [c2]
      by_cases hkn : k < n
      · rw [a2 k hkn, b2 k hkn, g195]
        exact t2 k (by omega)
      · have e : k = n + (k - n) := by omega
        rw [e, a3 (k - n) (by omega), b3 (k - n) (by omega)]
        exact ch_k x (by omega)
    · omega
  · refine ⟨_, rfl, w1, f1, (e_signM w1 g14 h80').to ?_⟩
    rintro r m2 ⟨w2, f2, b⟩
    obtain ⟨c1, c2⟩ := h2 m2 f2
    rcases b with ⟨q, -⟩ | ⟨-, rfl, b1, b2⟩
    · omega
    · refine ⟨rfl, w2, f2, by rw [c1, hn, b1], fun k hk => ?_⟩
      rw [c1] at hk
      rw [c2, b2 k (by omega)]
      exact t2 k hk
end TXS
end
section
/-! THE LEAGUE'S TEXT, SIGN BY SIGN: what stands (0 a line is wanted, 1 behind w, 2 in a side, 3 a line is done), digits of the side, lines, sides, arts, how many old sides stay, whether a w came, who is ill, the skills -/
abbrev LgSt : Type := Nat × Nat × Nat × Nat × Nat × Nat × Bool × (Nat → Bool) × (Nat → Int32)
abbrev lEnd (st dg ar : Nat) : Prop := st = 3 ∨ (st = 2 ∧ dg = ar)
def updB (f : Nat → Bool) (i : Nat) (b : Bool) : Nat → Bool := fun k => if k = i then b else f k
def clr4 (sk : Nat → Int32) (s : Nat) : Nat → Int32 := fun k => if 4 * s ≤ k ∧ k < 4 * s + 4 then 0 else sk k
def lsk (c : Int32) (st dg ln sd ar fr : Nat) (wp : Bool) (il : Nat → Bool) (sk : Nat → Int32) : Option LgSt :=
  if 0 ≤ (c - 48).toInt ∧ (c - 48).toInt ≤ 7 then some (st, dg + 1, ln, sd, ar, fr, wp, il, upd sk (4 * (sd - 1) + dg) (c - 48)) else none
def lst (c : Int32) (st dg ln sd ar fr : Nat) (wp : Bool) (il : Nat → Bool) (sk : Nat → Int32) : Option LgSt :=
  if c = 59 ∧ lEnd st dg ar then some (0, dg, ln, sd, ar, fr, wp, il, sk)
  else if st = 0 then (if c = 119 then some (1, dg, ln + 1, sd, ar, fr, wp, il, sk) else if sd < 8 then lsk c 2 0 (ln + 1) (sd + 1) ar fr wp (updB il sd false) (clr4 sk sd) else none)
  else if st = 1 then (if 1 ≤ (c - 48).toInt ∧ (c - 48).toInt ≤ 4 then some (3, dg, ln, 0, (c - 48).toNatClampNeg, 0, true, (fun _ => false), (fun _ => 0)) else none)
  else if st = 2 then (if dg < ar then lsk c 2 dg ln sd ar fr wp il sk else if c = 33 then some (3, dg, ln, sd, ar, fr, wp, updB il (sd - 1) true, sk) else none)
  else none
/-- what comes of the text from the sign p on, k signs before its end: where it is wrong, or what stands at its end -/
def LO (tx : Nat → Int32) (big : Bool) : Nat → Nat → LgSt → Nat ⊕ LgSt
  | 0, p, (st, dg, ln, sd, ar, fr, wp, il, sk) => if big = false ∧ lEnd st dg ar then .inr (st, dg, ln, sd, ar, fr, wp, il, sk) else .inl p
  | k + 1, p, (st, dg, ln, sd, ar, fr, wp, il, sk) => match lst (tx p) st dg ln sd ar fr wp il sk with
    | none => .inl p
    | some L => LO tx big k (p + 1) L
section LOS
variable {tx : Nat → Int32} {big : Bool} {k p st dg ln sd ar fr : Nat} {wp : Bool} {il : Nat → Bool} {sk : Nat → Int32} {L : LgSt}
theorem LO_s (h : lst (tx p) st dg ln sd ar fr wp il sk = some L) : LO tx big (k + 1) p (st, dg, ln, sd, ar, fr, wp, il, sk) = LO tx big k (p + 1) L := by
  show (match lst (tx p) st dg ln sd ar fr wp il sk with | none => Sum.inl p | some L => LO tx big k (p + 1) L) = _
  rw [h]
theorem LO_f (h : lst (tx p) st dg ln sd ar fr wp il sk = none) : LO tx big (k + 1) p (st, dg, ln, sd, ar, fr, wp, il, sk) = .inl p := by
  show (match lst (tx p) st dg ln sd ar fr wp il sk with | none => Sum.inl p | some L => LO tx big k (p + 1) L) = _
  rw [h]
theorem LO_e (h : big = false ∧ lEnd st dg ar) : LO tx big 0 p (st, dg, ln, sd, ar, fr, wp, il, sk) = .inr (st, dg, ln, sd, ar, fr, wp, il, sk) := if_pos h
theorem LO_n (h : ¬ (big = false ∧ lEnd st dg ar)) : LO tx big 0 p (st, dg, ln, sd, ar, fr, wp, il, sk) = .inl p := if_neg h
theorem lst_ch {c b : Int32} (h : CH c b) : lst c st dg ln sd ar fr wp il sk = lst b st dg ln sd ar fr wp il sk := by
  rcases h with ⟨-, -, rfl⟩ | ⟨a1, a2, a3⟩
  · rfl
  · have r := fb_rng b
    have z48 : (48 : Int32).toInt = 48 := rfl
    have e1 : (c - 48).toInt = c.toInt - 48 := ti_sub (by omega)
    have e2 : (b - 48).toInt = b.toInt - 48 ∨ (b - 48).toInt = b.toInt - 48 + 4294967296 := by
      rw [Int32.toInt_sub, z48, Int.bmod_def]
      by_cases hb : -2147483600 ≤ b.toInt
      · left; omega
      · right; omega
    have c59 : ¬ c = 59 := fun q => by have := congrArg Int32.toInt q; have z : (59 : Int32).toInt = 59 := rfl; omega
    have c119 : ¬ c = 119 := fun q => by have := congrArg Int32.toInt q; have z : (119 : Int32).toInt = 119 := rfl; omega
    have c33 : ¬ c = 33 := fun q => by have := congrArg Int32.toInt q; have z : (33 : Int32).toInt = 33 := rfl; omega
    have b59 : ¬ b = 59 := fun q => by have := congrArg Int32.toInt q; have z : (59 : Int32).toInt = 59 := rfl; omega
    have b119 : ¬ b = 119 := fun q => by have := congrArg Int32.toInt q; have z : (119 : Int32).toInt = 119 := rfl; omega
    have b33 : ¬ b = 33 := fun q => by have := congrArg Int32.toInt q; have z : (33 : Int32).toInt = 33 := rfl; omega
    have c7 : ¬ (0 ≤ (c - 48).toInt ∧ (c - 48).toInt ≤ 7) := by omega
    have b7 : ¬ (0 ≤ (b - 48).toInt ∧ (b - 48).toInt ≤ 7) := by omega
    have c4 : ¬ (1 ≤ (c - 48).toInt ∧ (c - 48).toInt ≤ 4) := by omega
    have b4 : ¬ (1 ≤ (b - 48).toInt ∧ (b - 48).toInt ≤ 4) := by omega
    unfold lst lsk
    simp only [c59, c119, c33, b59, b119, b33, c7, b7, c4, b4, false_and, if_false]
theorem LO_ch {tb : Nat → Int32} : ∀ {k p : Nat} {L : LgSt}, (∀ j, j < p + k → CH (tx j) (tb j)) → LO tx big k p L = LO tb big k p L := by
  intro k
  induction k with
  | zero => intro p L _; obtain ⟨st, dg, ln, sd, ar, fr, wp, il, sk⟩ := L; rfl
  | succ k ih =>
    intro p L h
    obtain ⟨st, dg, ln, sd, ar, fr, wp, il, sk⟩ := L
    have e := lst_ch (st := st) (dg := dg) (ln := ln) (sd := sd) (ar := ar) (fr := fr) (wp := wp) (il := il) (sk := sk) (h p (by omega))
    cases hl : lst (tb p) st dg ln sd ar fr wp il sk with
    | none => rw [LO_f hl, LO_f (e.trans hl)]
    | some L' => rw [LO_s hl, LO_s (e.trans hl)]; exact ih (fun j hj => h j (by omega))
theorem lst_open {c : Int32} (hc : c ≠ 119) (h8 : sd < 8) (ha : 1 ≤ ar) : lst c 0 dg ln sd ar fr wp il sk = lst c 2 0 (ln + 1) (sd + 1) ar fr wp (updB il sd false) (clr4 sk sd) := by
  unfold lst
  rw [if_neg (by omega), if_pos rfl, if_neg hc, if_pos h8, if_neg (by omega), if_neg (by decide), if_neg (by decide), if_pos rfl, if_pos (by omega)]
/-- a side is begun ahead of its first digit -/
theorem LO_open (hc : k ≠ 0 → tx p ≠ 119) (h8 : sd < 8) (ha : 1 ≤ ar) : LO tx big k p (0, dg, ln, sd, ar, fr, wp, il, sk) = LO tx big k p (2, 0, ln + 1, sd + 1, ar, fr, wp, updB il sd false, clr4 sk sd) := by
  cases k with
  | zero => rw [LO_n (by omega), LO_n (by omega)]
  | succ k =>
    have e := lst_open (dg := dg) (ln := ln) (fr := fr) (wp := wp) (il := il) (sk := sk) (hc (Nat.succ_ne_zero k)) h8 ha
    cases hl : lst (tx p) 2 0 (ln + 1) (sd + 1) ar fr wp (updB il sd false) (clr4 sk sd) with
    | none => rw [LO_f hl, LO_f (e.trans hl)]
    | some L' => rw [LO_s hl, LO_s (e.trans hl)]
theorem lst_w : lst 119 0 dg ln sd ar fr wp il sk = some (1, dg, ln + 1, sd, ar, fr, wp, il, sk) := by
  unfold lst
  rw [if_neg (fun q => absurd q.1 (by decide)), if_pos rfl, if_pos rfl]
theorem lst_a {c : Int32} (h : 1 ≤ (c - 48).toInt ∧ (c - 48).toInt ≤ 4) : lst c 1 dg ln sd ar fr wp il sk = some (3, dg, ln, 0, (c - 48).toNatClampNeg, 0, true, (fun _ => false), (fun _ => 0)) := by
  unfold lst
  rw [if_neg (by omega), if_neg (by decide), if_pos rfl, if_pos h]
theorem lst_an {c : Int32} (h : ¬ (1 ≤ (c - 48).toInt ∧ (c - 48).toInt ≤ 4)) : lst c 1 dg ln sd ar fr wp il sk = none := by
  unfold lst
  rw [if_neg (by omega), if_neg (by decide), if_pos rfl, if_neg h]
theorem lst_8 {c : Int32} (hc : c ≠ 119) (h8 : ¬ sd < 8) : lst c 0 dg ln sd ar fr wp il sk = none := by
  unfold lst
  rw [if_neg (by omega), if_pos rfl, if_neg hc, if_neg h8]
theorem lst_d {c : Int32} (h : 0 ≤ (c - 48).toInt ∧ (c - 48).toInt ≤ 7) (hd : dg < ar) : lst c 2 dg ln sd ar fr wp il sk = some (2, dg + 1, ln, sd, ar, fr, wp, il, upd sk (4 * (sd - 1) + dg) (c - 48)) := by
  unfold lst lsk
  rw [if_neg (by omega), if_neg (by decide), if_neg (by decide), if_pos rfl, if_pos hd, if_pos h]
theorem lst_dn {c : Int32} (h : ¬ (0 ≤ (c - 48).toInt ∧ (c - 48).toInt ≤ 7)) (hd : dg < ar) : lst c 2 dg ln sd ar fr wp il sk = none := by
  unfold lst lsk
  rw [if_neg (by omega), if_neg (by decide), if_neg (by decide), if_pos rfl, if_pos hd, if_neg h]
theorem lst_i : lst 33 2 ar ln sd ar fr wp il sk = some (3, ar, ln, sd, ar, fr, wp, updB il (sd - 1) true, sk) := by
  unfold lst
  rw [if_neg (fun q => absurd q.1 (by decide)), if_neg (by decide), if_neg (by decide), if_pos rfl, if_neg (by omega), if_pos rfl]
theorem lst_c (h : lEnd st dg ar) : lst 59 st dg ln sd ar fr wp il sk = some (0, dg, ln, sd, ar, fr, wp, il, sk) := by
  unfold lst
  rw [if_pos ⟨rfl, h⟩]
theorem lst_en {c : Int32} (h : lEnd st dg ar) (h1 : c ≠ 59) (h2 : st = 2 → c ≠ 33) : lst c st dg ln sd ar fr wp il sk = none := by
  unfold lst
  rw [if_neg (fun q => h1 q.1)]
  rcases h with rfl | ⟨rfl, rfl⟩
  · rw [if_neg (by decide), if_neg (by decide), if_neg (by decide)]
  · rw [if_neg (by decide), if_neg (by decide), if_pos rfl, if_neg (by omega), if_neg (h2 rfl)]
end LOS
/-! the model reads so -/
section LHM
variable {ad : Nat → Nat} {d : Nat} {m : Wm} {O : Nat ⊕ LgSt}
def lgE (m : Wm) (ln sd ar fr : Nat) (wp : Bool) (il : Nat → Bool) (sk : Nat → Int32) (m' : Wm) : Prop :=
  m'.1 187 1 = nI sd ∧ m'.1 187 0 = nI ar ∧ m'.1 187 30 = 0 ∧ m'.1 187 53 = m.1 187 53 + 1 ∧
  (if wp = true then m'.1 187 10 = 0 ∧ m'.1 187 11 = 0 ∧ m'.1 187 12 = 0 ∧ m'.1 187 52 = 0 else m'.1 187 10 = m.1 187 10 ∧ m'.1 187 11 = m.1 187 11 ∧ m'.1 187 12 = m.1 187 12 ∧ m'.1 187 52 = m.1 187 52) ∧
  (∀ k, 4 * fr ≤ k → k < 4 * sd → m'.1 188 k = sk k) ∧ (∀ k, k < 4 * fr → m'.1 188 k = m.1 188 k) ∧
  (∀ t, fr ≤ t → t < sd → m'.1 190 t = 0 ∧ m'.1 191 t = 0 ∧ m'.1 192 t = 0 ∧ m'.1 189 t = if il t = true then 1 else 0) ∧
  (∀ t, t < fr → m'.1 190 t = m.1 190 t ∧ m'.1 191 t = m.1 191 t ∧ m'.1 192 t = m.1 192 t ∧ m'.1 189 t = m.1 189 t)
def lhQ (m : Wm) (O : Nat ⊕ LgSt) (r : Option Value) (m' : Wm) : Prop := lgQ m r m' ∧ (∀ q, O = .inl q → r = some (.int (-1 - nI q)) ∧ Fx (RS [20, 21, 22, 27]) m m') ∧
  ∀ st dg ln sd ar fr wp il sk, O = .inr (st, dg, ln, sd, ar, fr, wp, il, sk) → r = some (.int (nI ln)) ∧ lgE m ln sd ar fr wp il sk m'
def lhN (fr sd : Nat) (il : Nat → Bool) (sk : Nat → Int32) (m3 : Wm) : Prop := (∀ k, 4 * fr ≤ k → k < 4 * sd → m3.1 197 k = sk k) ∧ (∀ s, fr ≤ s → s < sd → m3.1 198 s = if il s = true then 1 else 0)
/-- while it is taken over: the skills below b, the sides below s are there -/
def lhC (m : Wm) (n ar fr sd s b : Nat) (wp : Bool) (il : Nat → Bool) (sk : Nat → Int32) (m3 : Wm) : Prop :=
  lhN fr sd il sk m3 ∧ m3.1 187 0 = nI ar ∧ m3.1 187 1 = nI n ∧ m3.1 187 53 = m.1 187 53 ∧
  (if wp = true then m3.1 187 10 = 0 ∧ m3.1 187 11 = 0 ∧ m3.1 187 12 = 0 ∧ m3.1 187 52 = 0 else m3.1 187 10 = m.1 187 10 ∧ m3.1 187 11 = m.1 187 11 ∧ m3.1 187 12 = m.1 187 12 ∧ m3.1 187 52 = m.1 187 52) ∧
  (∀ k, 4 * fr ≤ k → k < b → m3.1 188 k = sk k) ∧ (∀ k, k < 4 * fr → m3.1 188 k = m.1 188 k) ∧
  (∀ t, fr ≤ t → t < s → m3.1 190 t = 0 ∧ m3.1 191 t = 0 ∧ m3.1 192 t = 0 ∧ m3.1 189 t = if il t = true then 1 else 0) ∧
  (∀ t, t < fr → m3.1 190 t = m.1 190 t ∧ m3.1 191 t = m.1 191 t ∧ m3.1 192 t = m.1 192 t ∧ m3.1 189 t = m.1 189 t)
theorem lh_362 {n st dg ln ar fr sd : Nat} {wp : Bool} {il : Nat → Bool} {sk : Nat → Int32} {m3 : Wm} {v : Int32} (hO : O = .inr (st, dg, ln, sd, ar, fr, wp, il, sk)) (h8 : sd ≤ 8) (I : lgI m m3) (C : lhC m n ar fr sd sd (4 * sd) wp il sk m3) (hv : v = m3.1 187 53 + 1) :
    AW ad E0 μX12_league (d + 1) (lhQ m O) 362 [(0, .ref (ad 187)), (3, .int (nI sd)), (5, .int (nI ln))] [] (uI m3 187 53 v) := by
  have e1 : (nI sd).toInt = sd := nI_toInt (by omega)
  have I' : lgI m (uI m3 187 53 v) := ⟨I.1.n rfl, I.2.1.i rfl, I.2.2.1, I.2.2.2⟩
  have C' : m3.1 187 53 = m.1 187 53 := C.2.2.2.1
  obtain ⟨w, f, e, g⟩ := I'
  obtain ⟨c1, c2, c3, c4, c5, c6, c7, c8, c9⟩ := C
  refine g_X12_league_362 ⟨⟨(w.t rfl (by omega) (by omega)).t rfl (by decide) (by decide), (f.i rfl).i rfl, ⟨_, rfl⟩, e, g⟩, fun q hq => ?_, fun st' dg' ln' sd' ar' fr' wp' il' sk' hq => ?_⟩
  · rw [hO] at hq; cases hq
  · rw [hO] at hq
    cases hq
    refine ⟨rfl, rfl, c2, rfl, ?_, c5, c6, c7, c8, c9⟩
    show v = _
    rw [hv, C']
theorem lhN.at {fr sd : Nat} {il : Nat → Bool} {sk : Nat → Int32} {m3 m4 : Wm} (h : lhN fr sd il sk m3) (h7 : m4.1 197 = m3.1 197) (h8 : m4.1 198 = m3.1 198) : lhN fr sd il sk m4 := by
  unfold lhN
  rw [h7, h8]
  exact h
theorem lh_copy {n st dg ln ar fr sd : Nat} {wp : Bool} {il : Nat → Bool} {sk : Nat → Int32} (hO : O = .inr (st, dg, ln, sd, ar, fr, wp, il, sk)) (h8 : sd ≤ 8) (hl : wp = true ∨ (fr = n ∧ fr < sd)) (hfr : fr ≤ sd) : ∀ (j s : Nat) (m3 : Wm), s + j = sd → fr ≤ s → lgI m m3 → lhC m n ar fr sd s (4 * s) wp il sk m3 →
    AW ad E0 μX12_league (d + 1) (lhQ m O) 250 [(0, .ref (ad 187)), (3, .int (nI sd)), (4, .int (if wp = true then 1 else 0)), (5, .int (nI ln)), (7, .int (nI s))] [] m3 := by
  intro j
  induction j with
  | zero =>
    intro s m3 hs hfs I C
    obtain rfl : s = sd := hs
    refine g_X12_league_250 ⟨fun _ => ⟨fun _ => lh_362 hO h8 I C rfl, fun c => ?_⟩, fun c => absurd ((nI_leI (by omega) (by omega)).mpr (by omega)) c⟩
    rcases hl with hw | ⟨h1, h2⟩
    · rw [if_pos hw] at c; exact absurd c (by decide)
    · refine ⟨fun q => ?_, fun _ => lh_362 hO h8 I C rfl⟩
      rw [C.2.2.1] at q
      have := (nI_leI (by omega) (by omega)).mp q
      omega
  | succ j ih =>
    intro s m3 hs hfs I C
    have hs8 : s < 8 := by omega
    refine g_X12_league_250 ⟨fun c => absurd ((nI_leI (by omega) (by omega)).mp c) (by omega), fun _ => ?_⟩
    have L : ∀ (i a : Nat) (m4 : Wm), a + i = 4 → lgI m m4 → lhC m n ar fr sd s (4 * s + a) wp il sk m4 → AW ad E0 μX12_league (d + 1) (lhQ m O) 259 [(0, .ref (ad 187)), (3, .int (nI sd)), (4, .int (if wp = true then 1 else 0)), (5, .int (nI ln)), (7, .int (nI s)), (8, .int (nI a))] [] m4 := by
      intro i
      induction i with
      | zero =>
        intro a m4 ha I4 C4
        obtain rfl : a = 4 := ha
        obtain ⟨w, f, e, g⟩ := I4
        obtain ⟨c1, c2, c3, c4, c5, c6, c7, c8, c9⟩ := C4
        have v := nat_in hs8 (show (8 : Nat) < 2147483648 by decide)
        refine g_X12_league_259 ⟨fun _ => ⟨v, v, v, v, v, ?_⟩, fun c => absurd ((le_l 4 4 rfl (by omega) (by omega)).mpr (by omega)) c⟩
        rw [nI_1, nI_clamp (by omega)]
        have e198 : vp_nar .boolean (m4.1 198 s) = if il s = true then 1 else 0 := by
          rw [c1.2 s hfs (by omega)]
          by_cases hi : il s = true
          · rw [if_pos hi]; rfl
          · rw [if_neg hi]; rfl
        refine ih (s + 1) _ (by omega) (by omega) ⟨(((w.n rfl).n rfl).n rfl).n rfl, (((f.i rfl).i rfl).i rfl).i rfl, e, g⟩ ⟨c1.at ?_ ?_, c2, c3, c4, c5, c6, c7, fun t h1 h2 => ?_, fun t ht => ?_⟩
        · exact (((uI_cell (by decide)).trans (uI_cell (by decide))).trans (uI_cell (by decide))).trans (uI_cell (by decide))
        · exact (((uI_cell (by decide)).trans (uI_cell (by decide))).trans (uI_cell (by decide))).trans (uI_cell (by decide))
        · by_cases hts : t = s
          · subst hts
            exact ⟨(u_ne (by omega)).trans ((u_ne (by omega)).trans u_eq), (u_ne (by omega)).trans u_eq, u_eq, (u_ne (by omega)).trans ((u_ne (by omega)).trans ((u_ne (by omega)).trans (u_eq.trans e198)))⟩
          · obtain ⟨d1, d2, d3, d4⟩ := c8 t h1 (by omega)
            have hn : ∀ (M : Wm) (a b : Nat) (x : Int32), (uI M a s x).1 b t = M.1 b t := fun M a b x => u_ne (fun q => hts q.2)
            refine ⟨?_, ?_, ?_, ?_⟩
            · rw [hn, hn, hn, hn]; exact d1
            · rw [hn, hn, hn, hn]; exact d2
            · rw [hn, hn, hn, hn]; exact d3
            · rw [hn, hn, hn, hn]; exact d4
        · obtain ⟨d1, d2, d3, d4⟩ := c9 t ht
          have hts : ¬ t = s := by omega
          have hn : ∀ (M : Wm) (a b : Nat) (x : Int32), (uI M a s x).1 b t = M.1 b t := fun M a b x => u_ne (fun q => hts q.2)
          refine ⟨?_, ?_, ?_, ?_⟩
          · rw [hn, hn, hn, hn]; exact d1
          · rw [hn, hn, hn, hn]; exact d2
          · rw [hn, hn, hn, hn]; exact d3
          · rw [hn, hn, hn, hn]; exact d4
      | succ i ih2 =>
        intro a m4 ha I4 C4
        obtain ⟨w, f, e, g⟩ := I4
        obtain ⟨c1, c2, c3, c4, c5, c6, c7, c8, c9⟩ := C4
        have l4 : (4 : Int32) * nI s + nI a = nI (4 * s + a) := by rw [l_mul 4 4 rfl, nI_add]
        refine g_X12_league_259 ⟨fun c => absurd ((le_l 4 4 rfl (by omega) (by omega)).mp c) (by omega), fun _ => ?_⟩
        rw [l4, nI_1, nI_clamp (by omega)]
        refine ⟨nat_in (by omega) (by decide), nat_in (by omega) (by decide), ih2 (a + 1) _ (by omega) ⟨w.n rfl, f.i rfl, e, g⟩ ⟨c1.at (uI_cell (by decide)) (uI_cell (by decide)), c2, c3, c4, c5, fun k h1 h2 => ?_, fun k hk => ?_, c8, c9⟩⟩
        · by_cases hk : k = 4 * s + a
          · subst hk
            exact u_eq.trans (c1.1 _ (by omega) (by omega))
          · exact (u_ne (fun q => hk q.2)).trans (c6 k h1 (by omega))
        · exact (u_ne (by omega)).trans (c7 k hk)
    exact L 4 0 m3 (by decide) I C
theorem lh_bad {q p : Nat} {w x1 x2 x3 x4 x5 : Int32} {ty e : Nat} {tx : Nat → Int32} {m4 : Wm} (hO : O = .inl q) (hq : q < 100) (h4 : PS 195 ty 76 e tx p w m4) (hw : w = nI q) (I : lgI m m4) (F : Fx (RS [20, 21, 22, 27]) m m4) : AW ad E0 μX12_league (d + 1) (lhQ m O) 203 [(0, .ref (ad 187)), (1, .int x1), (2, .int x2), (3, .int x3), (4, .int x4), (5, .int x5)] [] m4 := by
  have hw1 : ¬ w = -1 := fun z => m1_ne q (by omega) (z.symm.trans hw)
  have e22 : m4.1 187 22 = w := h4.2.2.2.2.1
  obtain ⟨w0, f0, e0, g0⟩ := I
  refine g_X12_league_203 ((fine_ok h4).to ?_)
  rintro _ m' ⟨eq, rfl⟩
  obtain rfl := eq.symm
  refine ⟨0, by rw [if_neg hw1], fun c => absurd rfl c, fun _ => ⟨⟨w0, f0, ⟨_, rfl⟩, e0, g0⟩, fun q' hq' => ?_, fun _ _ _ _ _ _ _ _ _ hq' => ?_⟩⟩
  · rw [hO] at hq'
    cases hq'
    exact ⟨by rw [e22, hw], F⟩
  · rw [hO] at hq'; cases hq'
section LHW
variable {ty e : Nat} {tx : Nat → Int32}
theorem flt_d {x w : Int32} {p : Nat} (h : ¬ w = -1) : (fltF x (p, w)).2 = w := by rw [flt_keep h]
theorem lh_dead184 (A : PA 195 80 ty 76 e) {q p : Nat} {w x1 x2 x3 x4 x5 : Int32} {m4 : Wm} (hO : O = .inl q) (hq : q < 100) (h4 : PS 195 ty 76 e tx p w m4) (hw : w = nI q) (I : lgI m m4) (F : Fx (RS [20, 21, 22, 27]) m m4) : AW ad E0 μX12_league (d + 1 + 1) (lhQ m O) 184 [(0, .ref (ad 187)), (1, .int x1), (2, .int x2), (3, .int x3), (4, .int x4), (5, .int x5)] [] m4 := by
  have hw1 : ¬ w = -1 := fun z => m1_ne q (by omega) (z.symm.trans hw)
  refine g_X12_league_184 ⟨fun _ => lh_bad hO hq h4 hw I F, fun _ => (fault_ok A h4).to ?_⟩
  rintro _ m5 ⟨rfl, h5, f5⟩
  rw [flt_d hw1] at h5
  exact ⟨rfl, lh_bad hO hq h5 hw (I.fx f5) (F.tr f5 (RS_sub rfl))⟩
theorem lh_dead57 (A : PA 195 80 ty 76 e) {q p : Nat} {w x1 x2 x3 x4 x5 x6 : Int32} {m4 : Wm} (hO : O = .inl q) (hq : q < 100) (h4 : PS 195 ty 76 e tx p w m4) (hw : w = nI q) (I : lgI m m4) (F : Fx (RS [20, 21, 22, 27]) m m4) : AW ad E0 μX12_league (d + 1 + 1) (lhQ m O) 57 [(0, .ref (ad 187)), (1, .int x1), (2, .int x2), (3, .int x3), (4, .int x4), (5, .int x5), (6, .int x6)] [] m4 := by
  have hw1 : ¬ w = -1 := fun z => m1_ne q (by omega) (z.symm.trans hw)
  refine g_X12_league_57 ⟨fun _ => lh_dead184 A hO hq h4 hw I F, fun _ => (fine_ok h4).to ?_⟩
  rintro _ m' ⟨eq, rfl⟩
  obtain rfl := eq.symm
  exact ⟨0, by rw [if_neg hw1], fun _ => lh_dead184 A hO hq h4 hw I F, fun c => absurd rfl c⟩
theorem pass_d {c : Int32} {p : Nat} {w : Int32} (h : ¬ w = -1) : ¬ passF tx e c (p, w) = true := fun q => h (of_decide_eq_true q).1
/-- behind a line, after a fault: ; is asked for, and not there -/
theorem lh_deadP (A : PA 195 80 ty 76 e) {q p : Nat} {w x1 x2 x3 x4 x5 : Int32} {m4 : Wm} (hO : O = .inl q) (hq : q < 100) (h4 : PS 195 ty 76 e tx p w m4) (hw : w = nI q) (I : lgI m m4) (F : Fx (RS [20, 21, 22, 27]) m m4) :
    Ct ad μX12_passes (d + 4) [.ref (ad 187), .int 59] m4 (fun r m10 => ∃ v11 : Int32, r = some (.int v11) ∧ AW ad E0 μX12_league (d + 4 + 1) (lhQ m O) 57 [(0, .ref (ad 187)), (1, .int x1), (2, .int x2), (3, .int x3), (4, .int x4), (5, .int x5), (6, .int v11)] [] m10) := by
  have hw1 : ¬ w = -1 := fun z => m1_ne q (by omega) (z.symm.trans hw)
  refine (passes_ok A h4 (by decide)).to ?_
  rintro _ m5 ⟨rfl, h5, f5⟩
  rw [if_neg (pass_d hw1)] at h5 ⊢
  exact ⟨_, rfl, lh_dead57 (d := d + 3) A hO hq h5 hw (I.fx f5) (F.tr f5 (RS_sub rfl))⟩
theorem lh_dead115 (A : PA 195 80 ty 76 e) {q p : Nat} {w x1 x2 x4 x5 : Int32} {sd : Nat} (hO : O = .inl q) (hq : q < 100) (hs : sd < 8) (hw : w = nI q) : ∀ (j a : Nat) (m4 : Wm), a + j = 4 → PS 195 ty 76 e tx p w m4 → lgI m m4 → Fx (RS [20, 21, 22, 27]) m m4 →
    AW ad E0 μX12_league (d + 4 + 1) (lhQ m O) 115 [(0, .ref (ad 187)), (1, .int x1), (2, .int x2), (3, .int (nI sd)), (4, .int x4), (5, .int x5), (7, .int (nI a))] [] m4 := by
  have hw1 : ¬ w = -1 := fun z => m1_ne q (by omega) (z.symm.trans hw)
  intro j
  induction j with
  | zero =>
    intro a m4 ha h4 I F
    refine g_X12_league_115 ⟨fun _ => (passes_ok A h4 (by decide)).to ?_, fun c => absurd ((le_l 4 4 rfl (by omega) (by omega)).mpr (by omega)) c⟩
    rintro _ m6 ⟨rfl, h6, f6⟩
    rw [if_neg (pass_d hw1)] at h6 ⊢
    obtain ⟨i1, i2, i3, i4⟩ := I.fx f6
    exact ⟨_, rfl, nat_in (by omega) (by decide), lh_deadP A hO hq (h6.u (by decide) (by decide)) hw ⟨i1.n rfl, i2.i rfl, i3, i4⟩ ((F.tr f6 (RS_sub rfl)).i rfl)⟩
  | succ j ih =>
    intro a m4 ha h4 I F
    have l4 : (4 : Int32) * nI sd + nI a = nI (4 * sd + a) := by rw [l_mul 4 4 rfl, nI_add]
    refine g_X12_league_115 ⟨fun c => absurd ((le_l 4 4 rfl (by omega) (by omega)).mp c) (by omega), fun _ => ?_⟩
    rw [l4, nI_1]
    refine ⟨fun _ => ⟨nat_in (by omega) (by decide), ?_⟩, fun _ => (digit_ok A h4 (lo := 0) (hi := 7) (by decide)).to ?_⟩
    · obtain ⟨i1, i2, i3, i4⟩ := I
      exact ih (a + 1) _ (by omega) (h4.u (by decide) (by decide)) ⟨i1.n rfl, i2.i rfl, i3, i4⟩ (F.i rfl)
    · rintro _ m6 ⟨rfl, h6, f6⟩
      have e1 : digF tx e 0 7 (p, w) = (0, (p, w)) := by unfold digF; rw [if_neg hw1]
      rw [e1] at h6 ⊢
      obtain ⟨i1, i2, i3, i4⟩ := I.fx f6
      exact ⟨_, rfl, nat_in (by omega) (by decide), ih (a + 1) _ (by omega) (h6.u (by decide) (by decide)) ⟨i1.n rfl, i2.i rfl, i3, i4⟩ ((F.tr f6 (RS_sub rfl)).i rfl)⟩
/-- what holds of the numbers read so far: sd sides (fr of them old), ar arts -/
def lhV (n a0 sd ar fr : Nat) (wp : Bool) : Prop := fr ≤ sd ∧ sd ≤ 8 ∧ 1 ≤ ar ∧ ar ≤ 4 ∧ (wp = true ∨ (fr = n ∧ ar = a0))
theorem lh_end (A : PA 195 80 ty 76 e) {n a0 st dg ln sd ar fr p : Nat} {wp : Bool} {il : Nat → Bool} {sk : Nat → Int32} {x4 : Int32} {m3 : Wm} (h : PS 195 ty 76 e tx p (-1) m3) (hO : LO tx (decide (76 < ty)) (e - p) p (st, dg, ln, sd, ar, fr, wp, il, sk) = O) (hE : lEnd st dg ar) (h59 : p < e → tx p ≠ 59) (h33 : st = 2 → p < e → tx p ≠ 33)
    (V : lhV n a0 sd ar fr wp) (hl : wp = true ∨ fr < sd) (hx : x4 = if wp = true then 1 else 0) (I : lgI m m3) (N : lhN fr sd il sk m3) (F : Fx (RS [20, 21, 22, 27]) m m3) (hn : m.1 187 1 = nI n) (ha0 : m.1 187 0 = nI a0) :
    AW ad E0 μX12_league (d + 1 + 1) (lhQ m O) 184 [(0, .ref (ad 187)), (1, .int (nI ar)), (2, .int (nI fr)), (3, .int (nI sd)), (4, .int x4), (5, .int (nI ln))] [] m3 := by
  have hpe : p ≤ e := h.2.2.2.2.2.1
  obtain ⟨A1, A2, A3, A4, A5, A6, A7, A8, A9⟩ := A
  have A : PA 195 80 ty 76 e := ⟨A1, A2, A3, A4, A5, A6, A7, A8, A9⟩
  obtain ⟨V1, V2, V3, V4, V5⟩ := V
  subst hx
  refine g_X12_league_184 ⟨fun c => ?_, fun c => ?_⟩
  · rw [h.2.1, h.2.2.2.1] at c
    have c' := (nI_leI (a := ty) (b := p) (by omega) (by omega)).mp c
    have hep : e - p = 0 := by omega
    rw [hep, LO_e ⟨decide_eq_false (by omega), hE⟩] at hO
    have hO' := hO.symm
    refine g_X12_league_203 ((fine_ok h).to ?_)
    rintro _ m' ⟨eq, rfl⟩
    obtain rfl := eq.symm
    refine ⟨1, rfl, fun _ => ⟨fun c4 => ?_, fun c4 => ?_⟩, fun q => absurd q (by decide)⟩
    · have hwp : wp = false := by
        cases wp with
        | false => rfl
        | true => exact absurd c4 (by decide)
      subst hwp
      have hfr : fr = n ∧ ar = a0 := by rcases V5 with q | q; exact absurd q (by decide); exact q
      have hlt : fr < sd := by rcases hl with q | q; exact absurd q (by decide); exact q
      refine lh_copy hO' V2 (Or.inr ⟨hfr.1, hlt⟩) V1 (sd - fr) fr m3 (by omega) (Nat.le_refl _) I ⟨N, ?_, ?_, F.at (by decide), ⟨F.at (by decide), F.at (by decide), F.at (by decide), F.at (by decide)⟩, fun k h1 h2 => absurd h2 (by omega), fun k hk => F.at (by show ¬ (([20, 21, 22, 27] : List Nat).elem 24 = true); decide), fun t h1 h2 => absurd h2 (by omega), fun t ht => ⟨F.at (by show ¬ (([20, 21, 22, 27] : List Nat).elem 24 = true); decide), F.at (by show ¬ (([20, 21, 22, 27] : List Nat).elem 24 = true); decide), F.at (by show ¬ (([20, 21, 22, 27] : List Nat).elem 24 = true); decide), F.at (by show ¬ (([20, 21, 22, 27] : List Nat).elem (rg 189 t) = true); exact (show ¬ (([20, 21, 22, 27] : List Nat).elem (rg 189 0) = true) by decide))⟩⟩
      · exact (F.at (a := 187) (k := 0) (by decide)).trans (by rw [ha0, hfr.2])
      · exact (F.at (a := 187) (k := 1) (by decide)).trans hn
    · have hwp : wp = true := by
        cases wp with
        | true => rfl
        | false => exact absurd rfl c4
      subst hwp
      obtain ⟨i1, i2, i3, i4⟩ := I
      have tar : (nI ar).toInt = ar := nI_toInt (by omega)
      refine lh_copy (n := n) hO' V2 (Or.inl rfl) V1 (sd - fr) fr _ (by omega) (Nat.le_refl _) ⟨((((i1.t rfl (by omega) (by omega)).t rfl (by decide) (by decide)).t rfl (by decide) (by decide)).n rfl).t rfl (by decide) (by decide), ((((i2.i rfl).i rfl).i rfl).i rfl).i rfl, i3, Or.inr rfl⟩ ⟨N, rfl, ?_, F.at (by decide), ⟨rfl, rfl, rfl, rfl⟩, fun k h1 h2 => absurd h2 (by omega), fun k hk => F.at (by show ¬ (([20, 21, 22, 27] : List Nat).elem 24 = true); decide), fun t h1 h2 => absurd h2 (by omega), fun t ht => ⟨F.at (by show ¬ (([20, 21, 22, 27] : List Nat).elem 24 = true); decide), F.at (by show ¬ (([20, 21, 22, 27] : List Nat).elem 24 = true); decide), F.at (by show ¬ (([20, 21, 22, 27] : List Nat).elem 24 = true); decide), F.at (by show ¬ (([20, 21, 22, 27] : List Nat).elem (rg 189 t) = true); exact (show ¬ (([20, 21, 22, 27] : List Nat).elem (rg 189 0) = true) by decide))⟩⟩
      exact (F.at (a := 187) (k := 1) (by decide)).trans hn
  · rw [h.2.1, h.2.2.2.1] at c
    have c' : p < ty := by
      refine Nat.lt_of_not_le (fun q => c ((nI_leI (a := ty) (b := p) (by omega) (by omega)).mpr q))
    have hO2 : O = .inl p := by
      by_cases hp : p < e
      · have hk : e - p = (e - p - 1) + 1 := by omega
        rw [← hO, hk, LO_f (lst_en hE (h59 hp) (fun q => h33 q hp))]
      · have hep : e - p = 0 := by omega
        have hb : decide (76 < ty) = true := decide_eq_true (by omega)
        rw [← hO, hep, LO_n (by rw [hb]; exact fun q => absurd q.1 (by decide))]
    rw [h.2.2.2.1]
    refine (fault_ok A h).to ?_
    rintro _ m5 ⟨rfl, h5, f5⟩
    refine ⟨rfl, lh_bad hO2 (by omega) h5 ?_ (I.fx f5) (F.tr f5 (RS_sub rfl))⟩
    unfold fltF
    rw [if_pos rfl]
end LHW
end LHM
end
section
/-! THE LEAGUE IS READ BY THE MODEL AS SIGN BY SIGN -/
theorem sub_add48 (c : Int32) : c - 48 + 48 = c := Int32.sub_add_cancel c 48
theorem dgi {c lo hi : Int32} {l u : Nat} (hl : lo = nI l) (hu : hi = nI u) (hl9 : l ≤ 9) (hu9 : u ≤ 9) : (48 + lo ≤ c ∧ c ≤ 48 + hi) ↔ ((l : Int) ≤ (c - 48).toInt ∧ (c - 48).toInt ≤ u) := by
  refine ⟨fun h => dig_v hl hu hl9 hu9 h.1 h.2, fun h => ?_⟩
  subst hl hu
  have z48 : (48 : Int32).toInt = 48 := rfl
  have e1 : (nI l).toInt = l := nI_toInt (by omega)
  have e2 : (nI u).toInt = u := nI_toInt (by omega)
  have b1 := ti_add (x := 48) (y := nI l) (by omega)
  have b2 := ti_add (x := 48) (y := nI u) (by omega)
  have b3 := ti_add (x := c - 48) (y := 48) (by omega)
  rw [sub_add48] at b3
  exact ⟨(fa_le _ _).mpr (by omega), (fa_le _ _).mpr (by omega)⟩
section LHL
variable {ad : Nat → Nat} {d : Nat} {m : Wm} {O : Nat ⊕ LgSt} {ty e : Nat} {tx : Nat → Int32}
theorem hr_in {p : Nat} (h : p < e) : hrF tx e p = tx p := if_pos h
theorem hr_out {p : Nat} (h : ¬ p < e) : hrF tx e p = -1 := if_neg h
theorem pass_iff {c : Int32} {p : Nat} (hc : c ≠ -1) : passF tx e c (p, -1) = true ↔ (p < e ∧ tx p = c) := by
  constructor
  · intro h
    have h1 := pass_lt h hc
    exact ⟨h1, (hr_in h1).symm.trans (of_decide_eq_true h).2⟩
  · intro h
    exact decide_eq_true ⟨rfl, (hr_in h.1).trans h.2⟩
theorem ep_s {p : Nat} (h : p < e) : e - p = (e - (p + 1)) + 1 := by omega
theorem lh_loop (A : PA 195 80 ty 76 e) {n a0 : Nat} (hn : m.1 187 1 = nI n) (ha0 : m.1 187 0 = nI a0) : ∀ (k dg ln sd ar fr p : Nat) (wp : Bool) (il : Nat → Bool) (sk : Nat → Int32) (x4 : Int32) (m3 : Wm), e - p < k → PS 195 ty 76 e tx p (-1) m3 →
    LO tx (decide (76 < ty)) (e - p) p (0, dg, ln, sd, ar, fr, wp, il, sk) = O → lhV n a0 sd ar fr wp → (x4 = if wp = true then 1 else 0) → lgI m m3 → lhN fr sd il sk m3 → Fx (RS [20, 21, 22, 27]) m m3 →
    AW ad E0 μX12_league (d + 4 + 1) (lhQ m O) 57 [(0, .ref (ad 187)), (1, .int (nI ar)), (2, .int (nI fr)), (3, .int (nI sd)), (4, .int x4), (5, .int (nI ln)), (6, .int 1)] [] m3 := by
  intro k
  induction k with
  | zero => intros; omega
  | succ k ih =>
    intro dg ln sd ar fr p wp il sk x4 m3 hk h hO V hx I N F
    have e80 : e ≤ 80 := by have := A.2.2.2.1; have := A.2.2.2.2.1; omega
    have hpe : p ≤ e := h.2.2.2.2.2.1
    -- behind a line
    have nx : ∀ (st dg ln sd ar fr p' : Nat) (wp : Bool) (il : Nat → Bool) (sk : Nat → Int32) (x4 : Int32) (m4 : Wm), p ≤ p' → PS 195 ty 76 e tx p' (-1) m4 → LO tx (decide (76 < ty)) (e - p') p' (st, dg, ln, sd, ar, fr, wp, il, sk) = O → lEnd st dg ar → (st = 2 → p' < e → tx p' ≠ 33) →
        lhV n a0 sd ar fr wp → (wp = true ∨ fr < sd) → (x4 = if wp = true then 1 else 0) → lgI m m4 → lhN fr sd il sk m4 → Fx (RS [20, 21, 22, 27]) m m4 →
        Ct ad μX12_passes (d + 4) [.ref (ad 187), .int 59] m4 (fun r m10 => ∃ v11 : Int32, r = some (.int v11) ∧ AW ad E0 μX12_league (d + 4 + 1) (lhQ m O) 57 [(0, .ref (ad 187)), (1, .int (nI ar)), (2, .int (nI fr)), (3, .int (nI sd)), (4, .int x4), (5, .int (nI ln)), (6, .int v11)] [] m10) := by
      intro st dg ln sd ar fr p' wp il sk x4 m4 hp h4 hO4 hE h33 V4 hl hx4 I4 N4 F4
      refine (passes_ok A h4 (by decide)).to ?_
      rintro _ m5 ⟨rfl, h5, f5⟩
      have I5 := I4.fx f5
      have F5 : Fx (RS [20, 21, 22, 27]) m m5 := F4.tr f5 (RS_sub rfl)
      have N5 : lhN fr sd il sk m5 := N4.at (funext fun k => f5.at (by show ¬ (([22] : List Nat).elem 27 = true); decide)) (funext fun k => f5.at (by show ¬ (([22] : List Nat).elem 27 = true); decide))
      by_cases h59 : passF tx e 59 (p', -1) = true
      · rw [if_pos h59] at h5 ⊢
        obtain ⟨q1, q2⟩ := (pass_iff (by decide)).mp h59
        rw [ep_s q1, LO_s (by rw [q2]; exact lst_c hE)] at hO4
        exact ⟨1, rfl, ih dg ln sd ar fr (p' + 1) wp il sk x4 m5 (by omega) h5 hO4 V4 hx4 I5 N5 F5⟩
      · rw [if_neg h59] at h5 ⊢
        have q1 : p' < e → tx p' ≠ 59 := fun q z => h59 ((pass_iff (by decide)).mpr ⟨q, z⟩)
        exact ⟨0, rfl, g_X12_league_57 ⟨fun _ => lh_end (d := d + 3) A h5 hO4 hE q1 h33 V4 hl hx4 I5 N5 F5 hn ha0, fun c => absurd rfl c⟩⟩
    refine g_X12_league_57 ⟨fun c => absurd c (by decide), fun _ => (fine_ok h).to ?_⟩
    rintro _ m' ⟨eq, rfl⟩
    obtain rfl := eq.symm
    refine ⟨1, rfl, fun c => absurd c (by decide), fun _ => (passes_ok A h (by decide)).to ?_⟩
    rintro _ m4 ⟨rfl, h4, f4⟩
    have I4 := I.fx f4
    have F4 : Fx (RS [20, 21, 22, 27]) m m4 := F.tr f4 (RS_sub rfl)
    have N4 : lhN fr sd il sk m4 := N.at (funext fun k => f4.at (by show ¬ (([22] : List Nat).elem 27 = true); decide)) (funext fun k => f4.at (by show ¬ (([22] : List Nat).elem 27 = true); decide))
    obtain ⟨V1, V2, V3, V4, V5⟩ := V
    refine ⟨_, rfl, fun c => ?_, fun c => ?_⟩
    · -- a side
      have hnp : ¬ passF tx e 119 (p, -1) = true := (bz_if rfl).1 c
      rw [if_neg hnp] at h4
      have n119 : p < e → tx p ≠ 119 := fun q z => hnp ((pass_iff (by decide)).mpr ⟨q, z⟩)
      refine ⟨fun c8 => ?_, fun c8 => ?_⟩
      · have sd7 : sd < 8 := by
          have : sd ≠ 8 := fun q => c8 (by rw [q]; rfl)
          omega
        rw [LO_open (fun hk0 => n119 (by omega)) sd7 V3] at hO
        have L : ∀ (j a p' : Nat) (sk' : Nat → Int32) (m5 : Wm), a + j = 4 → p ≤ p' → PS 195 ty 76 e tx p' (-1) m5 → LO tx (decide (76 < ty)) (e - p') p' (2, min a ar, ln + 1, sd + 1, ar, fr, wp, updB il sd false, sk') = O →
            (∀ k, 4 * fr ≤ k → k < 4 * sd + a → m5.1 197 k = sk' k) → (∀ k, 4 * sd + a ≤ k → k < 4 * sd + 4 → sk' k = 0) → (∀ s, fr ≤ s → s < sd → m5.1 198 s = if il s = true then 1 else 0) → lgI m m5 → Fx (RS [20, 21, 22, 27]) m m5 →
            AW ad E0 μX12_league (d + 4 + 1) (lhQ m O) 115 [(0, .ref (ad 187)), (1, .int (nI ar)), (2, .int (nI fr)), (3, .int (nI sd)), (4, .int x4), (5, .int (nI ln)), (7, .int (nI a))] [] m5 := by
          intro j
          induction j with
          | zero =>
            intro a p' sk' m5 ha hp h5 hO5 r1 r2 r3 I5 F5
            obtain rfl : a = 4 := ha
            have emin : min 4 ar = ar := by omega
            rw [emin] at hO5
            refine g_X12_league_115 ⟨fun _ => (passes_ok A h5 (by decide)).to ?_, fun q => absurd ((le_l 4 4 rfl (by omega) (by omega)).mpr (by omega)) q⟩
            rintro _ m6 ⟨rfl, h6, f6⟩
            have I6 := I5.fx f6
            have F6 : Fx (RS [20, 21, 22, 27]) m m6 := F5.tr f6 (RS_sub rfl)
            have g197 : ∀ k, m6.1 197 k = m5.1 197 k := fun k => f6.at (by show ¬ (([22] : List Nat).elem 27 = true); decide)
            have g198 : ∀ k, m6.1 198 k = m5.1 198 k := fun k => f6.at (by show ¬ (([22] : List Nat).elem 27 = true); decide)
            refine ⟨_, rfl, nat_in (by omega) (by decide), ?_⟩
            rw [nI_1 sd, nI_1 ln, nI_clamp (by omega)]
            obtain ⟨i1, i2, i3, i4⟩ := I6
            have V' : lhV n a0 (sd + 1) ar fr wp := ⟨by omega, by omega, V3, V4, V5⟩
            by_cases h33 : passF tx e 33 (p', -1) = true
            · rw [if_pos h33] at h6 ⊢
              obtain ⟨q1, q2⟩ := (pass_iff (by decide)).mp h33
              rw [ep_s q1, LO_s (by rw [q2]; exact lst_i)] at hO5
              refine nx 3 ar (ln + 1) (sd + 1) ar fr (p' + 1) wp _ sk' x4 _ (by omega) (h6.u (by decide) (by decide)) hO5 (Or.inl rfl) (fun q => absurd q (by decide)) V' (Or.inr (by omega)) hx ⟨i1.n rfl, i2.i rfl, i3, i4⟩ ⟨fun k h1 h2 => ?_, fun s h1 h2 => ?_⟩ (F6.i rfl)
              · exact (u_ne (by omega)).trans ((g197 k).trans (r1 k h1 (by omega)))
              · by_cases hs : s = sd
                · subst hs
                  refine u_eq.trans ?_
                  rw [if_pos (by simp [updB])]
                  rfl
                · refine (u_ne (fun q => hs q.2)).trans ((g198 s).trans ((r3 s h1 (by omega)).trans ?_))
                  have e1 : updB (updB il sd false) (sd + 1 - 1) true s = il s := by simp [updB, hs]
                  rw [e1]
            · rw [if_neg h33] at h6 ⊢
              refine nx 2 ar (ln + 1) (sd + 1) ar fr p' wp _ sk' x4 _ hp (h6.u (by decide) (by decide)) hO5 (Or.inr ⟨rfl, rfl⟩) (fun _ q z => h33 ((pass_iff (by decide)).mpr ⟨q, z⟩)) V' (Or.inr (by omega)) hx ⟨i1.n rfl, i2.i rfl, i3, i4⟩ ⟨fun k h1 h2 => ?_, fun s h1 h2 => ?_⟩ (F6.i rfl)
              · exact (u_ne (by omega)).trans ((g197 k).trans (r1 k h1 (by omega)))
              · by_cases hs : s = sd
                · subst hs
                  refine u_eq.trans ?_
                  rw [if_neg (by simp [updB])]
                  rfl
                · refine (u_ne (fun q => hs q.2)).trans ((g198 s).trans ((r3 s h1 (by omega)).trans ?_))
                  have e1 : updB il sd false s = il s := by simp [updB, hs]
                  rw [e1]
          | succ j ih2 =>
            intro a p' sk' m5 ha hp h5 hO5 r1 r2 r3 I5 F5
            have l4 : (4 : Int32) * nI sd + nI a = nI (4 * sd + a) := by rw [l_mul 4 4 rfl, nI_add]
            refine g_X12_league_115 ⟨fun q => absurd ((le_l 4 4 rfl (by omega) (by omega)).mp q) (by omega), fun _ => ?_⟩
            rw [l4, nI_1 a, nI_clamp (by omega)]
            refine ⟨fun ca => ⟨nat_in (by omega) (by decide), ?_⟩, fun ca => (digit_ok A h5 (lo := 0) (hi := 7) (by decide)).to ?_⟩
            · have ha' : ar ≤ a := (nI_leI (by omega) (by omega)).mp ca
              obtain ⟨i1, i2, i3, i4⟩ := I5
              refine ih2 (a + 1) p' sk' _ (by omega) hp (h5.u (by decide) (by decide)) ?_ (fun k h1 h2 => ?_) (fun k h1 h2 => r2 k (by omega) h2) (fun s h1 h2 => (u_ne (by omega)).trans (r3 s h1 h2)) ⟨i1.n rfl, i2.i rfl, i3, i4⟩ (F5.i rfl)
              · rw [show min (a + 1) ar = min a ar by omega]; exact hO5
              · by_cases hk' : k = 4 * sd + a
                · subst hk'
                  exact u_eq.trans (r2 _ (by omega) (by omega)).symm
                · exact (u_ne (fun q => hk' q.2)).trans (r1 k h1 (by omega))
            · have ha' : a < ar := Nat.lt_of_not_le (fun q => ca ((nI_leI (by omega) (by omega)).mpr q))
              rw [show min a ar = a by omega] at hO5
              rintro _ m6 ⟨rfl, h6, f6⟩
              have I6 := I5.fx f6
              have F6 : Fx (RS [20, 21, 22, 27]) m m6 := F5.tr f6 (RS_sub rfl)
              have g197 : ∀ k, m6.1 197 k = m5.1 197 k := fun k => f6.at (by show ¬ (([22] : List Nat).elem 27 = true); decide)
              have g198 : ∀ k, m6.1 198 k = m5.1 198 k := fun k => f6.at (by show ¬ (([22] : List Nat).elem 27 = true); decide)
              obtain ⟨i1, i2, i3, i4⟩ := I6
              have hp'e : p' ≤ e := h5.2.2.2.2.2.1
              by_cases hg : p' < e ∧ 0 ≤ (tx p' - 48).toInt ∧ (tx p' - 48).toInt ≤ 7
              · obtain ⟨hlt, hg1, hg2⟩ := hg
                have e1 : digF tx e 0 7 (p', -1) = (tx p' - 48, (p' + 1, -1)) := by
                  unfold digF
                  rw [if_pos rfl, hr_in hlt, if_pos ((dgi (lo := 0) (hi := 7) (l := 0) (u := 7) rfl rfl (by decide) (by decide)).mpr ⟨hg1, hg2⟩)]
                rw [e1] at h6 ⊢
                rw [ep_s hlt, LO_s (lst_d ⟨hg1, hg2⟩ ha')] at hO5
                refine ⟨_, rfl, nat_in (by omega) (by decide), ih2 (a + 1) (p' + 1) _ _ (by omega) (by omega) (h6.u (by decide) (by decide)) (by rw [show min (a + 1) ar = a + 1 by omega]; exact hO5) (fun k h1 h2 => ?_) (fun k h1 h2 => ?_) (fun s h1 h2 => (u_ne (by omega)).trans ((g198 s).trans (r3 s h1 h2))) ⟨i1.n rfl, i2.i rfl, i3, i4⟩ (F6.i rfl)⟩
                · show _ = (if k = 4 * (sd + 1 - 1) + a then tx p' - 48 else sk' k)
                  rw [Nat.add_sub_cancel]
                  by_cases hk' : k = 4 * sd + a
                  · subst hk'
                    rw [if_pos rfl]
                    exact u_eq
                  · rw [if_neg hk']
                    exact (u_ne (fun q => hk' q.2)).trans ((g197 k).trans (r1 k h1 (by omega)))
                · show (if k = 4 * (sd + 1 - 1) + a then tx p' - 48 else sk' k) = 0
                  rw [Nat.add_sub_cancel, if_neg (by omega)]
                  exact r2 k (by omega) h2
              · have e1 : digF tx e 0 7 (p', -1) = (0, (p', nI p')) := by
                  unfold digF
                  rw [if_pos rfl]
                  rw [if_neg (fun q => hg (by
                    by_cases hlt : p' < e
                    · rw [hr_in hlt] at q
                      exact ⟨hlt, (dgi (lo := 0) (hi := 7) (l := 0) (u := 7) rfl rfl (by decide) (by decide)).mp q⟩
                    · rw [hr_out hlt] at q
                      exact absurd q.1 (by decide)))]
                  unfold fltF
                  rw [if_pos rfl]
                rw [e1] at h6 ⊢
                have hO6 : O = .inl p' := by
                  by_cases hlt : p' < e
                  · rw [← hO5, ep_s hlt, LO_f (lst_dn (fun q => hg ⟨hlt, q⟩) ha')]
                  · rw [← hO5, show e - p' = 0 by omega, LO_n (fun q => by have := q.2; omega)]
                refine ⟨_, rfl, nat_in (by omega) (by decide), lh_dead115 A hO6 (by omega) sd7 rfl j (a + 1) _ (by omega) (h6.u (by decide) (by decide)) ⟨i1.n rfl, i2.i rfl, i3, i4⟩ (F6.i rfl)⟩
        refine L 4 0 p _ m4 (by decide) (Nat.le_refl _) h4 (by rw [show min 0 ar = 0 by omega]; exact hO) (fun k h1 h2 => ?_) (fun k h1 h2 => ?_) N4.2 I4 F4
        · rw [N4.1 k h1 (by omega)]
          show _ = (if 4 * sd ≤ k ∧ k < 4 * sd + 4 then 0 else sk k)
          rw [if_neg (by omega)]
        · show (if 4 * sd ≤ k ∧ k < 4 * sd + 4 then 0 else sk k) = 0
          rw [if_pos (by omega)]
      · have sd8 : sd = 8 := by
          have := (nI_eq (a := sd) (b := 8) (by omega) (by decide)).mp c8
          exact this
        have hO6 : O = .inl p := by
          by_cases hlt : p < e
          · rw [← hO, ep_s hlt, LO_f (lst_8 (n119 hlt) (by omega))]
          · rw [← hO, show e - p = 0 by omega, LO_n (fun q => by have := q.2; omega)]
        rw [h4.2.2.2.1]
        refine (fault_ok A h4).to ?_
        rintro _ m5 ⟨rfl, h5, f5⟩
        refine ⟨rfl, lh_deadP A hO6 (by omega) h5 ?_ (I4.fx f5) (F4.tr f5 (RS_sub rfl))⟩
        unfold fltF
        rw [if_pos rfl]
    · -- w
      have hy : passF tx e 119 (p, -1) = true := (bz_if rfl).2 c
      rw [if_pos hy] at h4
      obtain ⟨q1, q2⟩ := (pass_iff (by decide)).mp hy
      rw [ep_s q1, LO_s (by rw [q2]; exact lst_w)] at hO
      refine (digit_ok A h4 (lo := 1) (hi := 4) (by decide)).to ?_
      rintro _ m6 ⟨rfl, h6, f6⟩
      have I6 := I4.fx f6
      have F6 : Fx (RS [20, 21, 22, 27]) m m6 := F4.tr f6 (RS_sub rfl)
      by_cases hg : p + 1 < e ∧ 1 ≤ (tx (p + 1) - 48).toInt ∧ (tx (p + 1) - 48).toInt ≤ 4
      · obtain ⟨hlt, hg1, hg2⟩ := hg
        have e1 : digF tx e 1 4 (p + 1, -1) = (tx (p + 1) - 48, (p + 1 + 1, -1)) := by
          unfold digF
          rw [if_pos rfl, hr_in hlt, if_pos ((dgi (lo := 1) (hi := 4) (l := 1) (u := 4) rfl rfl (by decide) (by decide)).mpr ⟨hg1, hg2⟩)]
        rw [e1] at h6 ⊢
        obtain ⟨j, hj, ej⟩ := zn_of (x := tx (p + 1) - 48) (by omega)
        have tj : (tx (p + 1) - 48).toInt = j := by rw [ej, nI_toInt hj]
        have cj : (tx (p + 1) - 48).toNatClampNeg = j := by rw [ej, nI_clamp hj]
        rw [ep_s hlt, LO_s (lst_a ⟨hg1, hg2⟩), cj] at hO
        rw [ej, nI_1 ln]
        exact ⟨_, rfl, nx 3 dg (ln + 1) 0 j 0 (p + 1 + 1) true _ _ 1 m6 (by omega) h6 hO (Or.inl rfl) (fun q => absurd q (by decide)) ⟨by decide, by decide, by omega, by omega, Or.inl rfl⟩ (Or.inl rfl) rfl I6 ⟨fun k h1 h2 => absurd h2 (by omega), fun s h1 h2 => absurd h2 (by omega)⟩ F6⟩
      · have e1 : digF tx e 1 4 (p + 1, -1) = (0, (p + 1, nI (p + 1))) := by
          unfold digF
          rw [if_pos rfl]
          rw [if_neg (fun q => hg (by
            by_cases hlt : p + 1 < e
            · rw [hr_in hlt] at q
              exact ⟨hlt, (dgi (lo := 1) (hi := 4) (l := 1) (u := 4) rfl rfl (by decide) (by decide)).mp q⟩
            · rw [hr_out hlt] at q
              exact absurd q.1 (by decide)))]
          unfold fltF
          rw [if_pos rfl]
        rw [e1] at h6 ⊢
        have hO6 : O = .inl (p + 1) := by
          by_cases hlt : p + 1 < e
          · rw [← hO, ep_s hlt, LO_f (lst_an (fun q => hg ⟨hlt, q⟩))]
          · rw [← hO, show e - (p + 1) = 0 by omega, LO_n (fun q => by have := q.2; omega)]
        exact ⟨_, rfl, lh_deadP A hO6 (by omega) h6 rfl I6 F6⟩
/-- the model's league(), of a text that is not empty -/
theorem e_leagueM {n a0 t : Nat} (w : WT m) (hn : m.1 187 1 = nI n) (hn8 : n ≤ 8) (ha0 : m.1 187 0 = nI a0) (h1 : 1 ≤ a0) (h4 : a0 ≤ 4) (ht : m.1 187 14 = nI t) (ht0 : t ≠ 0) (ht80 : t ≤ 80) (il : Nat → Bool) (sk : Nat → Int32) :
    Ct ad μX12_league (d + 5) [.ref (ad 187)] m (lhQ m (LO (m.1 195) (decide (76 < t)) (minT t 76) 0 (0, 0, 0, n, a0, n, false, il, sk))) := by
  have w0 : WT (uI m 187 17 0) := w.n rfl
  have A := pa_text (n := t) (t := 76) (by omega) (by decide)
  have he80 : minT t 76 ≤ 80 := by unfold minT; split <;> omega
  refine v_X12_league (d := d + 4) ((begin_ok (na := 80) rfl).to ?_)
  rintro _ m1 ⟨rfl, e1⟩
  have e1' : m1 = bgM (uI m 187 17 0) 195 (nI t) (nI 76) := by rw [e1]; show _ = bgM _ _ (nI t) _; rw [← ht]; rfl
  subst e1'
  clear e1
  have f1 : Fx (RS [22]) (uI m 187 17 0) (bgM (uI m 187 17 0) 195 (nI t) (nI 76)) := bg_fx
  have P1 : PS 195 t 76 (minT t 76) ((uI m 187 17 0).1 195) 0 (-1) (bgM (uI m 187 17 0) 195 (nI t) (nI 76)) := bg_ps he80 (by decide)
  have w1 := w0.fx f1
  have F1 : Fx (RS [20, 21, 22, 27]) m (bgM (uI m 187 17 0) 195 (nI t) (nI 76)) := ((Fx.rf (S := RS [20, 21, 22, 27]) (m := m)).i (a := 187) (k := 17) (v := 0) rfl).tr f1 (RS_sub rfl)
  generalize bgM (uI m 187 17 0) 195 (nI t) (nI 76) = mb at f1 P1 w1 F1 ⊢
  have w2 : WT (uI mb 187 14 0) := w1.t rfl (by decide) (by decide)
  have P2 : PS 195 t 76 (minT t 76) (m.1 195) 0 (-1) (uI mb 187 14 0) := by
    obtain ⟨b1, b2, b3, b4, b5, b6, b7⟩ := P1
    exact ⟨b1, b2, b3, b4, b5, b6, fun k hk => b7 k hk⟩
  have F2 : Fx (RS [20, 21, 22, 27]) m (uI mb 187 14 0) := F1.i rfl
  have I2 : lgI m (uI mb 187 14 0) := ⟨w2, (Fx.rf (S := RS [20, 21, 22, 23, 24, 25, 27, 29, 39, 45, 46, 52])).tr F2 (RS_sub rfl), rfl, Or.inl ⟨F1.at (a := 187) (k := 10) (by decide), F1.at (a := 187) (k := 11) (by decide)⟩⟩
  have h01 : (uI mb 187 14 0).1 187 1 = nI n := (F2.at (a := 187) (k := 1) (by decide)).trans hn
  have h00 : (uI mb 187 14 0).1 187 0 = nI a0 := (F2.at (a := 187) (k := 0) (by decide)).trans ha0
  have h19 : (uI mb 187 14 0).1 187 19 = nI t := P2.2.1
  generalize uI mb 187 14 0 = mc at w2 P2 F2 I2 h01 h00 h19 ⊢
  refine ⟨rfl, fun _ => ?_, fun c => ?_⟩
  · rw [h01, h00]
    exact lh_loop A hn ha0 81 0 0 n a0 n 0 false il sk 0 mc (by omega) P2 rfl ⟨Nat.le_refl _, hn8, h1, h4, Or.inr ⟨rfl, rfl⟩⟩ rfl I2 ⟨fun k h1 h2 => absurd h2 (by omega), fun s h1 h2 => absurd h2 (by omega)⟩ F2
  · rw [h19] at c
    exact absurd ((nI_eq (a := t) (b := 0) (by omega) (by decide)).mp c) ht0
end LHL
end
section
/-! THE LEAGUE'S TEXT AS THE CLASS READS IT: sign by sign, into the draft -/
theorem c_ne {m : Wm} {a0 a s e n b j : Nat} (h : b ≠ a) : (uC m a0 a s e n).1 b j = m.1 b j := if_neg h
theorem c_at {m : Wm} {a0 a s e n j : Nat} (hs : s = 0) (he : e = 0) (h : j < n) : (uC m a0 a s e n).1 a j = m.1 a0 j := by
  subst hs he
  show (if a = a then va_cpy (m.1 a0) (m.1 a) 0 0 n j else m.1 a j) = _
  rw [if_pos rfl]
  show (if 0 ≤ j ∧ j < 0 + n then m.1 a0 (0 + (j - 0)) else m.1 a j) = _
  rw [if_pos ⟨Nat.zero_le _, by omega⟩, Nat.zero_add, Nat.sub_zero]
section CPY
variable {ad : Nat → Nat} {d : Nat} {m : Wm}
theorem e_copy {b0 b1 ρ0 ρ1 : Nat} (w : WT m) (hb0 : SS b0 ρ0) (hb1 : SS b1 ρ1) (hd : b1 + 4 < b0 ∨ b0 + 4 < b1) : Ct ad μX8_copy (d + 1) [.ref (ad b0), .ref (ad b1)] m (fun r m' => WT m' ∧ Fx (RS (ρ0 :: [])) m m' ∧ r = none ∧ (∀ k, k < 32 → m'.1 (b0 + 1) k = m.1 (b1 + 1) k) ∧ (∀ j k, 2 ≤ j → j ≤ 4 → k < 8 → m'.1 (b0 + j) k = m.1 (b1 + j) k) ∧ m'.1 b0 4 = m.1 b1 4) := by
  have h := hb0.2
  refine v_X8_copy hb0.1 hb1.1 ⟨by decide, by decide, by decide, by decide, by decide, by decide, by decide, by decide, by decide, by decide, by decide, by decide, by decide, by decide, by decide, by decide, by decide, by decide, by decide, by decide, ?_⟩
  refine ⟨((((w.c (fun k => (h 1 k (by decide)).2)).c (fun k => (h 2 k (by decide)).2)).c (fun k => (h 3 k (by decide)).2)).c (fun k => (h 4 k (by decide)).2)).s0 h, ((((Fx.rf.c (fun k => RS_hd h (by decide))).c (fun k => RS_hd h (by decide))).c (fun k => RS_hd h (by decide))).c (fun k => RS_hd h (by decide))).i (RS_hd0 h), rfl, fun k hk => ?_, fun j k h2 h4 hk => ?_, ?_⟩
  · exact (u_ne (by omega)).trans ((c_ne (by omega)).trans ((c_ne (by omega)).trans ((c_ne (by omega)).trans (c_at rfl rfl hk))))
  · have hj : j = 2 ∨ j = 3 ∨ j = 4 := by omega
    rcases hj with rfl | rfl | rfl
    · exact (u_ne (by omega)).trans ((c_ne (by omega)).trans ((c_ne (by omega)).trans ((c_at rfl rfl hk).trans (c_ne (by omega)))))
    · exact (u_ne (by omega)).trans ((c_ne (by omega)).trans ((c_at rfl rfl hk).trans ((c_ne (by omega)).trans (c_ne (by omega)))))
    · exact (u_ne (by omega)).trans ((c_at rfl rfl hk).trans ((c_ne (by omega)).trans ((c_ne (by omega)).trans (c_ne (by omega)))))
  · exact u_eq.trans ((c_ne (by omega)).trans ((c_ne (by omega)).trans ((c_ne (by omega)).trans (c_ne (by omega)))))
theorem e_putS {b0 i : Nat} {x1 x2 x3 : Int32} (hb0 : St b0) (h : x1 * 4 + x2 = nI i) (hi : i < 32) : Ct ad μX8_putSkill d [.ref (ad b0), .int x1, .int x2, .int x3] m (fun r m' => r = none ∧ m' = uI m (b0 + 1) i x3) := by
  refine v_X8_putSkill hb0 ?_
  rw [h]
  refine ⟨fun c => absurd c (nI_pos (by omega)), fun _ => ⟨fun c => absurd ((le_l 32 32 rfl (by decide) (by omega)).mp c) (by omega), fun _ => ⟨nat_in hi (by decide), rfl, ?_⟩⟩⟩
  rw [nI_clamp (by omega)]
def clrP (b s : Nat) (m m' : Wm) : Prop := (∀ k, m'.1 (b + 1) k = if 4 * s ≤ k ∧ k < 4 * s + 4 then 0 else m.1 (b + 1) k) ∧ (∀ j t, 2 ≤ j → j ≤ 4 → m'.1 (b + j) t = if t = s then 0 else m.1 (b + j) t) ∧ (∀ a k, a < b + 1 ∨ b + 4 < a → m'.1 a k = m.1 a k) ∧ m'.2 = m.2
theorem e_clear {b0 s : Nat} (hb0 : St b0) (hs : s < 8) : Ct ad μX8_clearSide (d + 1) [.ref (ad b0), .int (nI s)] m (fun r m' => r = none ∧ clrP b0 s m m') := by
  have L : ∀ (j a : Nat) (m1 : Wm), a + j = 4 → (∀ k, m1.1 (b0 + 1) k = if 4 * s ≤ k ∧ k < 4 * s + a then 0 else m.1 (b0 + 1) k) → (∀ c k, c ≠ b0 + 1 → m1.1 c k = m.1 c k) → m1.2 = m.2 →
      AW ad E0 μX8_clearSide (d + 1) (fun r m' => r = none ∧ clrP b0 s m m') 2 [(0, .ref (ad b0)), (1, .int (nI s)), (2, .int (nI a))] [] m1 := by
    intro j
    induction j with
    | zero =>
      intro a m1 ha h1 h2 h3
      obtain rfl : a = 4 := ha
      have v := nat_in hs (show (8 : Nat) < 2147483648 by decide)
      refine g_X8_clearSide_2 hb0 ⟨fun _ => ⟨v, v, v, rfl, fun k => ?_, fun j t hj1 hj2 => ?_, fun a k ha => ?_, h3⟩, fun c => absurd ((le_l 4 4 rfl (by omega) (by omega)).mpr (by omega)) c⟩
      · exact (u_ne (by omega)).trans ((u_ne (by omega)).trans ((u_ne (by omega)).trans (h1 k)))
      · rw [nI_clamp (by omega)]
        have hj : j = 2 ∨ j = 3 ∨ j = 4 := by omega
        by_cases hts : t = s
        · rw [if_pos hts, hts]
          rcases hj with rfl | rfl | rfl
          · exact (u_ne (by omega)).trans ((u_ne (by omega)).trans u_eq)
          · exact (u_ne (by omega)).trans u_eq
          · exact u_eq
        · rw [if_neg hts]
          exact (u_ne (fun q => hts q.2)).trans ((u_ne (fun q => hts q.2)).trans ((u_ne (fun q => hts q.2)).trans (h2 _ _ (by omega))))
      · exact (u_ne (by omega)).trans ((u_ne (by omega)).trans ((u_ne (by omega)).trans (h2 _ _ (by omega))))
    | succ j ih =>
      intro a m1 ha h1 h2 h3
      refine g_X8_clearSide_2 hb0 ⟨fun c => absurd ((le_l 4 4 rfl (by omega) (by omega)).mp c) (by omega), fun _ => (e_putS (i := 4 * s + a) hb0 (by rw [mul_l 4 4 rfl, nI_add, Nat.mul_comm s 4]) (by omega)).to ?_⟩
      rintro _ m2 ⟨rfl, e⟩
      subst e
      refine ⟨rfl, ?_⟩
      rw [nI_1]
      refine ih (a + 1) _ (by omega) (fun k => ?_) (fun c k hc => (u_ne (fun q => hc q.1)).trans (h2 c k hc)) h3
      by_cases hk : k = 4 * s + a
      · rw [hk, if_pos (by omega)]
        exact u_eq
      · refine (u_ne (fun q => hk q.2)).trans ((h1 k).trans ?_)
        by_cases hc : 4 * s ≤ k ∧ k < 4 * s + a
        · rw [if_pos hc, if_pos (by omega)]
        · rw [if_neg hc, if_neg (by omega)]
  exact v_X8_clearSide hb0 (L 4 0 m rfl (fun k => by rw [if_neg (by omega)]) (fun _ _ _ => rfl) rfl)
theorem clr16 {s : Nat} {m' : Wm} (h : clrP 16 s m m') (w : WT m) : WT m' ∧ Fx (RS [3]) m m' := by
  obtain ⟨h1, h2, h3, h4⟩ := h
  have hr : ∀ a k, ¬ RS [3] a k → a < 17 ∨ 20 < a := by
    intro a k hk
    by_cases q : a < 17 ∨ 20 < a
    · exact q
    · have : a = 17 ∨ a = 18 ∨ a = 19 ∨ a = 20 := by omega
      rcases this with rfl | rfl | rfl | rfl <;> exact absurd rfl hk
  have ht : ∀ a k, TY a k ≠ none → a < 17 ∨ 20 < a := by
    intro a k hk
    by_cases q : a < 17 ∨ 20 < a
    · exact q
    · have : a = 17 ∨ a = 18 ∨ a = 19 ∨ a = 20 := by omega
      rcases this with rfl | rfl | rfl | rfl <;> exact absurd rfl hk
  exact ⟨w.same (fun a k hk => h3 a k (ht a k hk)) (by rw [h4]), fun a k hk => ⟨h3 a k (hr a k hk), by rw [h4], by rw [h4]⟩⟩
end CPY
/-- what the draft and the reader's numbers hold; m0: the world when the reading began -/
def lcV (st dg sd ar fr : Nat) (wp : Bool) : Prop := st ≤ 3 ∧ sd ≤ 8 ∧ 1 ≤ ar ∧ ar ≤ 4 ∧ fr ≤ sd ∧ (st = 2 → fr < sd ∧ dg ≤ ar) ∧ (wp = true → fr = 0)
def LC (m0 : Wm) (HZ : Prop) (st dg ln sd ar fr : Nat) (wp : Bool) (il : Nat → Bool) (sk : Nat → Int32) (m : Wm) : Prop :=
  m.1 15 6 = nI st ∧ (st = 2 → m.1 15 5 = nI dg) ∧ m.1 15 4 = nI ln ∧ m.1 15 1 = nI sd ∧ m.1 15 2 = nI ar ∧ m.1 15 7 = (if wp = true then 1 else 0) ∧ m.1 16 4 = m0.1 21 4 ∧
  (HZ → ∀ s, s < 8 → bt (m.1 15 3) s = (decide (s < sd) && il s)) ∧ (∀ k, k < 32 → m.1 17 k = sk k) ∧
  (∀ j s, 2 ≤ j → j ≤ 4 → s < 8 → m.1 (16 + j) s = if s < fr ∨ (wp = false ∧ sd ≤ s) then m0.1 (21 + j) s else 0)
def LCT (m0 : Wm) (HZ : Prop) : LgSt → Wm → Prop
  | (st, dg, ln, sd, ar, fr, wp, il, sk), m => lcV st dg sd ar fr wp ∧ LC m0 HZ st dg ln sd ar fr wp il sk m
def LCQ (m0 : Wm) (HZ : Prop) (c : Int32) (st dg ln sd ar fr : Nat) (wp : Bool) (il : Nat → Bool) (sk : Nat → Int32) (r : Option Value) (m' : Wm) : Prop :=
  WT m' ∧ Fx (RS [3]) m0 m' ∧ ((r = some (.int 1) ∧ ∃ L, lst c st dg ln sd ar fr wp il sk = some L ∧ LCT m0 HZ L m') ∨ (r = some (.int 0) ∧ lst c st dg ln sd ar fr wp il sk = none))
section LCR
variable {ad : Nat → Nat} {d : Nat} {m m0 : Wm} {HZ : Prop} {c : Int32} {st dg ln sd ar fr : Nat} {wp : Bool} {il : Nat → Bool} {sk : Nat → Int32}
theorem lt7 {x : Int32} (h : ¬ (0 ≤ x.toInt ∧ x.toInt ≤ 7)) : x < 0 ∨ (¬ x < 0 ∧ ¬ x ≤ 7) := by
  by_cases h0 : x < 0
  · exact Or.inl h0
  · refine Or.inr ⟨h0, fun q => h ⟨?_, ?_⟩⟩
    · exact y_nltr (n := 0) rfl h0
    · exact y_ler (n := 7) rfl q
/-- a skill's sign: into the draft, or not one -/
theorem e_takeSkill (w : WT m) (f : Fx (RS [3]) m0 m) (hs : m.1 15 1 = nI (sd + 1)) (hd : m.1 15 5 = nI dg) (hb : 4 * sd + dg < 32) : Ct ad μX4_takeSkill (d + 1) [.ref (ad 15), .int (c - 48)] m (fun r m' => WT m' ∧ Fx (RS [3]) m0 m' ∧
    ((0 ≤ (c - 48).toInt ∧ (c - 48).toInt ≤ 7 ∧ r = some (.int 1) ∧ m' = uI (uI m 17 (4 * sd + dg) (c - 48)) 15 5 (nI (dg + 1))) ∨ (¬ (0 ≤ (c - 48).toInt ∧ (c - 48).toInt ≤ 7) ∧ r = some (.int 0) ∧ m' = m))) := by
  by_cases hg : 0 ≤ (c - 48).toInt ∧ (c - 48).toInt ≤ 7
  · have z7 : (7 : Int32).toInt = 7 := rfl
    have z0 : (0 : Int32).toInt = 0 := rfl
    refine v_X4_takeSkill ⟨fun q => absurd (z_lt q) (by omega), fun _ => ⟨fun _ => ?_, fun q => absurd ((fa_le _ _).mpr (by omega)) q⟩⟩
    rw [hs, hd, nI_pred]
    refine (e_putS (i := 4 * sd + dg) St_16 (by rw [mul_l 4 4 rfl, nI_add, Nat.mul_comm sd 4]) hb).to ?_
    rintro _ m1 ⟨rfl, e⟩
    subst e
    refine ⟨rfl, ?_⟩
    have e5 : (uI m (16 + 1) (4 * sd + dg) (c - 48)).1 15 5 = nI dg := hd
    rw [e5, nI_1]
    exact ⟨(w.n rfl).n rfl, (f.i rfl).i rfl, Or.inl ⟨hg.1, hg.2, rfl, rfl⟩⟩
  · rcases lt7 hg with h | ⟨h1, h2⟩
    · exact v_X4_takeSkill ⟨fun _ => ⟨w, f, Or.inr ⟨hg, rfl, rfl⟩⟩, fun q => absurd h q⟩
    · exact v_X4_takeSkill ⟨fun q => absurd q h1, fun _ => ⟨fun q => absurd q h2, fun _ => ⟨w, f, Or.inr ⟨hg, rfl, rfl⟩⟩⟩⟩
theorem e_canEnd (V : lcV st dg sd ar fr wp) (C : LC m0 HZ st dg ln sd ar fr wp il sk m) : Ct ad μX4_canEnd d [.ref (ad 15)] m (fun r m' => m' = m ∧ r = some (.int (if lEnd st dg ar then 1 else 0))) := by
  obtain ⟨c1, c2, c3, c4, c5, c6⟩ := C
  obtain ⟨V1, V2, V3, V4, V5, V6, V7⟩ := V
  refine v_X4_canEnd ?_
  rw [c1, c5]
  have e3 : nI st = 3 ↔ st = 3 := nI_eq (a := st) (b := 3) (by omega) (by decide)
  have e2 : nI st = 2 ↔ st = 2 := nI_eq (a := st) (b := 2) (by omega) (by decide)
  refine ⟨fun q => ?_, fun q => ⟨fun q2 => ?_, fun q2 => ⟨fun q3 => ?_, fun q3 => ?_⟩⟩⟩
  · rw [if_pos (Or.inl (e3.mp q))]; exact ⟨rfl, rfl⟩
  · rw [if_neg (fun z => by rcases z with z | z; exact q (e3.mpr z); exact q2 (e2.mpr z.1))]; exact ⟨rfl, rfl⟩
  · have h2 := e2.mp q2
    rw [c2 h2] at q3
    rw [if_neg (fun z => by rcases z with z | z; exact q (e3.mpr z); exact q3 (by rw [z.2]))]; exact ⟨rfl, rfl⟩
  · have h2 := e2.mp q2
    rw [c2 h2] at q3
    have hda := V6 h2
    rw [if_pos (Or.inr ⟨h2, (nI_eq (by omega) (by omega)).mp q3⟩)]; exact ⟨rfl, rfl⟩
theorem e_takeLine (w : WT m) (f : Fx (RS [3]) m0 m) (V : lcV 0 dg sd ar fr wp) (C : LC m0 HZ 0 dg ln sd ar fr wp il sk m) : Ct ad μX4_takeLine (d + 2) [.ref (ad 15), .int c] m (LCQ m0 HZ c 0 dg ln sd ar fr wp il sk) := by
  obtain ⟨V1, V2, V3, V4, V5, V6, V7⟩ := V
  obtain ⟨c1, c2, c3, c4, c5, c6, c7, c8, c9, c10⟩ := C
  refine v_X4_takeLine ⟨fun h119 => ?_, fun h119 => ?_⟩
  · have e1 : (uI m 15 4 ((m.1 15 4) + (1 : Int32))).1 15 1 = nI sd := c4
    rw [e1]
    refine ⟨fun h8 => ?_, fun h8 => ?_⟩
    · have sd7 : sd < 8 := (l_lt 8 8 rfl (by decide) (by omega)).mp h8
      rw [nI_1 sd]
      have e2 : (uI (uI (uI m 15 4 ((m.1 15 4) + (1 : Int32))) 15 1 (nI (sd + 1))) 15 5 (0 : Int32)).1 15 1 = nI (sd + 1) := rfl
      rw [e2, nI_pred, c3, nI_1 ln]
      have wa : WT (uI (uI (uI m 15 4 (nI (ln + 1))) 15 1 (nI (sd + 1))) 15 5 (0 : Int32)) := ((w.n rfl).t rfl (by rw [nI_toInt (by omega)]; omega) (by rw [nI_toInt (by omega)]; omega)).n rfl
      have fa : Fx (RS [3]) m0 (uI (uI (uI m 15 4 (nI (ln + 1))) 15 1 (nI (sd + 1))) 15 5 (0 : Int32)) := ((f.i rfl).i rfl).i rfl
      refine (e_clear St_16 sd7).to ?_
      rintro _ m1 ⟨rfl, P⟩
      obtain ⟨w1, f1⟩ := clr16 P wa
      obtain ⟨p1, p2, p3, p4⟩ := P
      refine ⟨rfl, ?_⟩
      have wb : WT (uI m1 15 6 (2 : Int32)) := w1.n rfl
      have fb : Fx (RS [3]) m0 (uI m1 15 6 (2 : Int32)) := (fa.tr f1 (RS_sub rfl)).i rfl
      have g1 : (uI m1 15 6 (2 : Int32)).1 15 1 = nI (sd + 1) := p3 15 1 (by omega)
      have g5 : (uI m1 15 6 (2 : Int32)).1 15 5 = nI 0 := p3 15 5 (by omega)
      refine (e_takeSkill (m0 := m0) (dg := 0) (sd := sd) wb fb g1 g5 (by omega)).to ?_
      rintro r m2 ⟨w2, f2, h⟩
      rcases h with ⟨h0, h7, rfl, e⟩ | ⟨hn, rfl, e⟩
      · subst e
        refine ⟨1, rfl, bz_1, w2, f2, Or.inl ⟨rfl, _, (lst_open h119 sd7 V3).trans (lst_d ⟨h0, h7⟩ (by omega)), ⟨by decide, by omega, V3, V4, by omega, fun _ => ⟨by omega, by omega⟩, V7⟩, rfl, fun _ => rfl, p3 15 4 (by omega), g1, (p3 15 2 (by omega)).trans c5, (p3 15 7 (by omega)).trans c6, (p3 16 4 (by omega)).trans c7, fun hz s hs => ?_, fun k hk => ?_, fun j s h1 h2 hs => ?_⟩⟩
        · have e3 : (uI (uI (uI m1 15 6 (2 : Int32)) 17 (4 * sd + 0) (c - 48)) 15 5 (nI (0 + 1))).1 15 3 = m.1 15 3 := p3 15 3 (by omega)
          rw [e3, c8 hz s hs]
          by_cases hss : s = sd
          · subst hss
            simp [updB]
          · have e4 : updB il sd false s = il s := by simp [updB, hss]
            rw [e4]
            congr 1
            exact decide_eq_decide.mpr (by omega)
        · show _ = (if k = 4 * (sd + 1 - 1) + 0 then c - 48 else clr4 sk sd k)
          rw [Nat.add_sub_cancel]
          by_cases hk2 : k = 4 * sd + 0
          · rw [if_pos hk2, hk2]
            exact (u_ne (by omega)).trans u_eq
          · rw [if_neg hk2]
            refine (u_ne (by omega)).trans ((u_ne (fun q => hk2 q.2)).trans ((u_ne (by omega)).trans ((p1 k).trans ?_)))
            unfold clr4
            by_cases hk3 : 4 * sd ≤ k ∧ k < 4 * sd + 4
            · rw [if_pos hk3, if_pos hk3]
            · rw [if_neg hk3, if_neg hk3]
              exact c9 k hk
        · refine (u_ne (by omega)).trans ((u_ne (by omega)).trans ((u_ne (by omega)).trans ((p2 j s h1 h2).trans ?_)))
          by_cases hss : s = sd
          · rw [if_pos hss, if_neg (by omega)]
          · rw [if_neg hss]
            refine (u_ne (by omega)).trans ((u_ne (by omega)).trans ((u_ne (by omega)).trans ((c10 j s h1 h2 hs).trans ?_)))
            by_cases hq : s < fr ∨ (wp = false ∧ sd ≤ s)
            · rw [if_pos hq, if_pos (by rcases hq with q | q; exact Or.inl q; exact Or.inr ⟨q.1, by omega⟩)]
            · rw [if_neg hq, if_neg (fun z => hq (by rcases z with q | q; exact Or.inl q; exact Or.inr ⟨q.1, by omega⟩))]
      · exact ⟨0, rfl, bz_0, w2, f2, Or.inr ⟨rfl, (lst_open h119 sd7 V3).trans (lst_dn hn (by omega))⟩⟩
    · have sd8 : ¬ sd < 8 := fun q => h8 ((l_lt 8 8 rfl (by decide) (by omega)).mpr q)
      exact ⟨w.n rfl, f.i rfl, Or.inr ⟨rfl, lst_8 h119 sd8⟩⟩
  · subst h119
    refine ⟨(w.n rfl).n rfl, (f.i rfl).i rfl, Or.inl ⟨rfl, _, lst_w, ⟨by decide, V2, V3, V4, V5, fun q => absurd q (by decide), V7⟩, rfl, fun q => absurd q (by decide), ?_, c4, c5, c6, c7, c8, fun k hk => c9 k hk, fun j s h1 h2 hs => (u_ne (by omega)).trans ((u_ne (by omega)).trans (c10 j s h1 h2 hs))⟩⟩
    show m.1 15 4 + 1 = _
    rw [c3, nI_1]
theorem e_takeArts (w : WT m) (f : Fx (RS [3]) m0 m) (V : lcV 1 dg sd ar fr wp) (C : LC m0 HZ 1 dg ln sd ar fr wp il sk m) : Ct ad μX4_takeArts (d + 2) [.ref (ad 15), .int (c - 48)] m (LCQ m0 HZ c 1 dg ln sd ar fr wp il sk) := by
  obtain ⟨c1, c2, c3, c4, c5, c6, c7, c8, c9, c10⟩ := C
  have bad : ¬ (1 ≤ (c - 48).toInt ∧ (c - 48).toInt ≤ 4) → LCQ m0 HZ c 1 dg ln sd ar fr wp il sk (some (.int 0)) m := fun h => ⟨w, f, Or.inr ⟨rfl, lst_an h⟩⟩
  refine v_X4_takeArts ⟨fun q => bad (fun z => ?_), fun q => ⟨fun q2 => ?_, fun q2 => bad (fun z => ?_)⟩⟩
  · have := y_ltr (n := 1) rfl q; omega
  · have g1 := y_nltr (n := 1) rfl q
    have g2 := y_ler (n := 4) rfl q2
    obtain ⟨v, hv, ev⟩ := zn_of (x := c - 48) (by omega)
    have tv : (c - 48).toInt = v := by rw [ev, nI_toInt hv]
    have cv : (c - 48).toNatClampNeg = v := by rw [ev, nI_clamp hv]
    have L : ∀ (j s : Nat) (m1 : Wm), s + j = 8 → WT m1 → Fx (RS [3]) m0 m1 → (∀ k, m1.1 15 k = m.1 15 k) → m1.1 16 4 = m.1 16 4 → (∀ k, k < 4 * s → m1.1 17 k = 0) → (∀ j t, 2 ≤ j → j ≤ 4 → t < s → m1.1 (16 + j) t = 0) →
        AW ad E0 μX4_takeArts (d + 2) (LCQ m0 HZ c 1 dg ln sd ar fr wp il sk) 14 [(0, .ref (ad 15)), (1, .int (c - 48)), (2, .int (nI s))] [] m1 := by
      intro j
      induction j with
      | zero =>
        intro s m1 hs w1 f1 r1 r2 r3 r4
        obtain rfl : s = 8 := hs
        refine g_X4_takeArts_14 ⟨fun _ => ⟨((((w1.n rfl).t rfl (by decide) (by decide)).t rfl (by omega) (by omega)).n rfl).n rfl, ((((f1.i rfl).i rfl).i rfl).i rfl).i rfl, Or.inl ⟨rfl, _, lst_a ⟨g1, g2⟩, ?_⟩⟩, fun c => absurd ((le_l 8 8 rfl (by omega) (by omega)).mpr (by omega)) c⟩
        rw [cv]
        refine ⟨⟨by decide, by decide, by omega, by omega, by decide, fun q => absurd q (by decide), fun _ => rfl⟩, rfl, fun q => absurd q (by decide), (r1 4).trans c3, rfl, ev, rfl, r2.trans c7, fun _ s hs => ?_, fun k hk => r3 k (by omega), fun j s h1 h2 hs => ?_⟩
        · show bt 0 s = _
          rw [b_0]
          simp
        · rw [if_neg (by simp)]
          exact (u_ne (by omega)).trans ((u_ne (by omega)).trans ((u_ne (by omega)).trans ((u_ne (by omega)).trans ((u_ne (by omega)).trans (r4 j s h1 h2 (by omega))))))
      | succ j ih =>
        intro s m1 hs w1 f1 r1 r2 r3 r4
        refine g_X4_takeArts_14 ⟨fun c => absurd ((le_l 8 8 rfl (by omega) (by omega)).mp c) (by omega), fun _ => (e_clear St_16 (by omega)).to ?_⟩
        rintro _ m2 ⟨rfl, P⟩
        obtain ⟨w2, f2⟩ := clr16 P w1
        obtain ⟨p1, p2, p3, p4⟩ := P
        refine ⟨rfl, ?_⟩
        rw [nI_1]
        refine ih (s + 1) m2 (by omega) w2 (f1.tr f2 (RS_sub rfl)) (fun k => (p3 15 k (by omega)).trans (r1 k)) ((p3 16 4 (by omega)).trans r2) (fun k hk => ?_) (fun j t h1 h2 ht => ?_)
        · refine (p1 k).trans ?_
          by_cases hk2 : 4 * s ≤ k ∧ k < 4 * s + 4
          · rw [if_pos hk2]
          · rw [if_neg hk2]; exact r3 k (by omega)
        · refine (p2 j t h1 h2).trans ?_
          by_cases hts : t = s
          · rw [if_pos hts]
          · rw [if_neg hts]; exact r4 j t h1 h2 (by omega)
    exact L 8 0 m rfl w f (fun _ => rfl) rfl (fun k hk => absurd hk (by omega)) (fun j t _ _ ht => absurd ht (by omega))
  · have := y_nler (n := 4) rfl q2; omega
theorem e_takeIll (w : WT m) (f : Fx (RS [3]) m0 m) (V : lcV 2 ar sd ar fr wp) (C : LC m0 HZ 2 ar ln sd ar fr wp il sk m) (hc : c ≠ 59) : Ct ad μX4_takeIll d [.ref (ad 15), .int c] m (LCQ m0 HZ c 2 ar ln sd ar fr wp il sk) := by
  obtain ⟨V1, V2, V3, V4, V5, V6, V7⟩ := V
  obtain ⟨c1, c2, c3, c4, c5, c6, c7, c8, c9, c10⟩ := C
  have hsd : fr < sd := (V6 rfl).1
  refine v_X4_takeIll ⟨fun q => ⟨w, f, Or.inr ⟨rfl, lst_en (Or.inr ⟨rfl, rfl⟩) hc (fun _ => q)⟩⟩, fun q => ?_⟩
  subst q
  rw [c4]
  refine ⟨fun _ => ⟨(w.n rfl).n rfl, (f.i rfl).i rfl, Or.inl ⟨rfl, _, lst_i, ⟨by decide, V2, V3, V4, V5, fun q => absurd q (by decide), V7⟩, rfl, fun q => absurd q (by decide), c3, c4, c5, c6, c7, fun hz s hs => ?_, fun k hk => c9 k hk, fun j s h1 h2 hs => (u_ne (by omega)).trans ((u_ne (by omega)).trans (c10 j s h1 h2 hs))⟩⟩, fun q => ?_⟩
  · show bt (m.1 15 3 ||| ((1 : Int32) <<< ((nI sd - 1) &&& 31))) s = _
    have e1 : nI sd - 1 = nI (sd - 1) := by
      have : sd = (sd - 1) + 1 := by omega
      rw [this, nI_pred, Nat.add_sub_cancel]
    rw [e1, b_or, c8 hz s hs, b_shl (sd - 1) (by omega) 1 (by omega)]
    have b1 : ∀ i : Fin 32, bt 1 i.val = decide (i.val = 0) := by decide +kernel
    have b1' : bt 1 (s - (sd - 1)) = decide (s - (sd - 1) = 0) := b1 ⟨s - (sd - 1), by omega⟩
    rw [b1']
    unfold updB
    by_cases hss : s = sd - 1
    · subst hss
      simp
      omega
    · rw [if_neg hss]
      by_cases hlt : s < sd
      · have e2 : decide (sd - 1 ≤ s) = false := decide_eq_false (by omega)
        rw [e2]; simp
      · have e2 : decide (s - (sd - 1) = 0) = false := decide_eq_false (by omega)
        rw [e2]; simp
  · have := (nI_eq (a := sd) (b := 0) (by omega) (by decide)).mp q
    omega
theorem e_take (w : WT m) (f : Fx (RS [3]) m0 m) (V : lcV st dg sd ar fr wp) (C : LC m0 HZ st dg ln sd ar fr wp il sk m) : Ct ad μX4_take (d + 3) [.ref (ad 15), .int c] m (LCQ m0 HZ c st dg ln sd ar fr wp il sk) := by
  have V0 := V
  have C0 := C
  obtain ⟨V1, V2, V3, V4, V5, V6, V7⟩ := V
  obtain ⟨c1, c2, c3, c4, c5, c6, c7, c8, c9, c10⟩ := C
  have wide : ∀ r m', (∃ v : Int32, r = some (Value.int v) ∧ LCQ m0 HZ c st dg ln sd ar fr wp il sk (some (.int v)) m') ∨ LCQ m0 HZ c st dg ln sd ar fr wp il sk r m' → ∃ v : Int32, r = some (Value.int v) ∧ (bz v ∧ LCQ m0 HZ c st dg ln sd ar fr wp il sk (some (.int v)) m') := by
    intro r m' h
    have key : LCQ m0 HZ c st dg ln sd ar fr wp il sk r m' := by
      rcases h with ⟨v, rfl, h⟩ | h
      · exact h
      · exact h
    obtain ⟨k1, k2, k3⟩ := key
    rcases k3 with ⟨rfl, k4⟩ | ⟨rfl, k4⟩
    · exact ⟨1, rfl, bz_1, k1, k2, Or.inl ⟨rfl, k4⟩⟩
    · exact ⟨0, rfl, bz_0, k1, k2, Or.inr ⟨rfl, k4⟩⟩
  have g20 : ¬ (c = 59 ∧ lEnd st dg ar) → AW ad E0 μX4_take (d + 3) (LCQ m0 HZ c st dg ln sd ar fr wp il sk) 20 [(0, .ref (ad 15)), (1, .int c)] [] m := by
    intro hn
    have i0 : nI st = 0 ↔ st = 0 := nI_eq (a := st) (b := 0) (by omega) (by decide)
    have i1 : nI st = 1 ↔ st = 1 := nI_eq (a := st) (b := 1) (by omega) (by decide)
    have i2 : nI st = 2 ↔ st = 2 := nI_eq (a := st) (b := 2) (by omega) (by decide)
    refine g_X4_take_20 ?_
    rw [c1]
    refine ⟨fun q => ?_, fun q => ?_, fun q => ⟨fun qa => ?_, fun qa => ?_⟩, fun q0 q1 q2 => ?_⟩
    · obtain rfl := i0.mp q
      exact (e_takeLine w f V0 C0).to (fun r m' h => wide r m' (Or.inr h))
    · obtain rfl := i1.mp q
      exact (e_takeArts (d := d) w f V0 C0).to (fun r m' h => wide r m' (Or.inr h))
    · obtain rfl := i2.mp q
      rw [c5, c2 rfl] at qa
      have hda := V6 rfl
      have := (nI_leI (by omega) (by omega)).mp qa
      obtain rfl : dg = ar := by omega
      exact (e_takeIll w f V0 C0 (fun z => hn ⟨z, Or.inr ⟨rfl, rfl⟩⟩)).to (fun r m' h => wide r m' (Or.inr h))
    · obtain rfl := i2.mp q
      rw [c5, c2 rfl] at qa
      have hda := V6 rfl
      have hlt : dg < ar := Nat.lt_of_not_le (fun z => qa ((nI_leI (by omega) (by omega)).mpr z))
      obtain ⟨sd', rfl⟩ : ∃ sd', sd = sd' + 1 := ⟨sd - 1, by omega⟩
      refine (e_takeSkill (m0 := m0) (dg := dg) (sd := sd') w f c4 (c2 rfl) (by omega)).to ?_
      rintro r m2 ⟨w2, f2, h⟩
      rcases h with ⟨h0, h7, rfl, e⟩ | ⟨hnn, rfl, e⟩
      · subst e
        refine ⟨1, rfl, bz_1, w2, f2, Or.inl ⟨rfl, _, lst_d ⟨h0, h7⟩ hlt, ⟨by decide, V2, V3, V4, V5, fun _ => ⟨hda.1, by omega⟩, V7⟩, c1, fun _ => rfl, c3, c4, c5, c6, c7, c8, fun k hk => ?_, fun j s h1 h2 hs => (u_ne (by omega)).trans ((u_ne (by omega)).trans (c10 j s h1 h2 hs))⟩⟩
        show _ = (if k = 4 * (sd' + 1 - 1) + dg then c - 48 else sk k)
        rw [Nat.add_sub_cancel]
        by_cases hk2 : k = 4 * sd' + dg
        · rw [if_pos hk2, hk2]
          exact (u_ne (by omega)).trans u_eq
        · rw [if_neg hk2]
          exact (u_ne (by omega)).trans ((u_ne (fun q => hk2 q.2)).trans (c9 k hk))
      · exact ⟨0, rfl, bz_0, w2, f2, Or.inr ⟨rfl, lst_dn hnn hlt⟩⟩
    · have h3 : st = 3 := by
        have a0 : st ≠ 0 := fun z => q0 (i0.mpr z)
        have a1 : st ≠ 1 := fun z => q1 (i1.mpr z)
        have a2 : st ≠ 2 := fun z => q2 (i2.mpr z)
        omega
      subst h3
      exact ⟨w, f, Or.inr ⟨rfl, lst_en (Or.inl rfl) (fun z => hn ⟨z, Or.inl rfl⟩) (fun z => absurd z (by decide))⟩⟩
  refine v_X4_take (d := d + 2) ⟨fun q => g20 (fun z => q z.1), fun q => ?_⟩
  subst q
  refine (e_canEnd V0 C0).to ?_
  rintro _ m' ⟨eq, rfl⟩
  obtain rfl := eq.symm
  by_cases hE : lEnd st dg ar
  · refine ⟨1, by rw [if_pos hE], fun z => absurd z (by decide), fun _ => ⟨w.n rfl, f.i rfl, Or.inl ⟨rfl, _, lst_c hE, ⟨by decide, V2, V3, V4, V5, fun q => absurd q (by decide), V7⟩, rfl, fun q => absurd q (by decide), c3, c4, c5, c6, c7, c8, fun k hk => c9 k hk, fun j s h1 h2 hs => (u_ne (by omega)).trans (c10 j s h1 h2 hs)⟩⟩⟩
  · exact ⟨0, by rw [if_neg hE], fun _ => g20 (fun z => hE z.2), fun z => absurd rfl z⟩
end LCR
end
section
/-! THE CLASS'S league() -/
section LCL
variable {ad : Nat → Nat} {d : Nat} {m : Wm}
theorem minT_i {t : Nat} (ht : t ≤ 80) : (if (76 : Int32) < nI t then (76 : Int32) else nI t) = nI (minT t 76) := by
  unfold minT
  by_cases h : t < 76
  · rw [if_neg (fun q => by have := (lt_l 76 76 rfl (by decide) (by omega)).mp q; omega), if_pos h]
  · rw [if_neg h]
    by_cases h2 : 76 < t
    · rw [if_pos ((lt_l 76 76 rfl (by decide) (by omega)).mpr h2)]
      rfl
    · have : t = 76 := by omega
      subst this
      rw [if_neg (by decide)]
def rdQ (m : Wm) (HZ : Prop) (O : Nat ⊕ LgSt) (r : Option Value) (m' : Wm) : Prop := WT m' ∧ Fx (RS [3]) m m' ∧ (∀ q, O = .inl q → r = some (.int (nI q)) ∧ q ≤ 76) ∧ ∀ L, O = .inr L → r = some (.int (-1)) ∧ LCT m HZ L m'
theorem e_read {n a0 t : Nat} {sk0 : Nat → Int32} {HZ : Prop} {il0 : Nat → Bool} (w : WT m) (hn : m.1 3 3 = nI n) (hn8 : n ≤ 8) (ha0 : m.1 3 4 = nI a0) (h1 : 1 ≤ a0) (h4 : a0 ≤ 4) (ht : m.1 1 1 = nI t) (ht80 : t ≤ 80) (hsk : ∀ k, k < 32 → m.1 22 k = sk0 k) (hil : HZ → ∀ s, s < 8 → bt (m.1 3 5) s = (decide (s < n) && il0 s)) :
    Ct ad μX4_read (d + 4) [.ref (ad 15), .ref (ad 1), .ref (ad 3), .ref (ad 21)] m (rdQ m HZ (LO (m.1 2) (decide (76 < t)) (minT t 76) 0 (0, 0, 0, n, a0, n, false, il0, sk0))) := by
  generalize hO0 : LO (m.1 2) (decide (76 < t)) (minT t 76) 0 (0, 0, 0, n, a0, n, false, il0, sk0) = O
  have e76 : minT t 76 ≤ 76 := by unfold minT; split <;> omega
  have et : minT t 76 ≤ t := by unfold minT; split <;> omega
  have L : ∀ (k p st dg ln sd ar fr : Nat) (wp : Bool) (il : Nat → Bool) (sk : Nat → Int32) (m1 : Wm), minT t 76 - p < k → p ≤ minT t 76 → WT m1 → Fx (RS [3]) m m1 → lcV st dg sd ar fr wp → LC m HZ st dg ln sd ar fr wp il sk m1 → LO (m.1 2) (decide (76 < t)) (minT t 76 - p) p (st, dg, ln, sd, ar, fr, wp, il, sk) = O →
      AW ad E0 μX4_read (d + 4) (rdQ m HZ O) 61 [(0, .ref (ad 15)), (1, .ref (ad 1)), (4, .int (nI (minT t 76))), (5, .int (nI p))] [] m1 := by
    intro k
    induction k with
    | zero => intros; omega
    | succ k ih =>
      intro p st dg ln sd ar fr wp il sk m1 hk hp w1 f1 V C hO
      have t1 : m1.1 1 1 = nI t := (f1.at (a := 1) (k := 1) (by decide)).trans ht
      have t2 : ∀ k, m1.1 2 k = m.1 2 k := fun k => f1.at (a := 2) (k := k) (by show ¬ (([3] : List Nat).elem 0 = true); decide)
      refine g_X4_read_61 ⟨fun c => ?_, fun c => ?_⟩
      · have hpe : p = minT t 76 := by have := (nI_leI (a := minT t 76) (b := p) (by omega) (by omega)).mp c; omega
        rw [t1]
        rw [show minT t 76 - p = 0 by omega] at hO
        refine ⟨fun q => ?_, fun q => (e_canEnd V C).to ?_⟩
        · have q' := (lt_l 76 76 rfl (by decide) (by omega)).mp q
          have hb : decide (76 < t) = true := decide_eq_true q'
          rw [LO_n (by rw [hb]; exact fun z => absurd z.1 (by decide))] at hO
          refine ⟨w1, f1, fun q2 h2 => ?_, fun L2 h2 => ?_⟩
          · rw [h2] at hO; cases hO; exact ⟨by rw [hpe], by omega⟩
          · rw [h2] at hO; cases hO
        · have hb : decide (76 < t) = false := decide_eq_false (fun z => q ((lt_l 76 76 rfl (by decide) (by omega)).mpr z))
          rintro _ m' ⟨eq, rfl⟩
          obtain rfl := eq.symm
          by_cases hE : lEnd st dg ar
          · rw [LO_e ⟨hb, hE⟩] at hO
            refine ⟨1, by rw [if_pos hE], fun _ => ⟨w1, f1, fun q2 h2 => ?_, fun L2 h2 => ?_⟩, fun z => absurd z (by decide)⟩
            · rw [h2] at hO; cases hO
            · rw [h2] at hO; cases hO; exact ⟨rfl, V, C⟩
          · rw [LO_n (fun z => hE z.2)] at hO
            refine ⟨0, by rw [if_neg hE], fun z => absurd rfl z, fun _ => ⟨w1, f1, fun q2 h2 => ?_, fun L2 h2 => ?_⟩⟩
            · rw [h2] at hO; cases hO; exact ⟨by rw [hpe], by omega⟩
            · rw [h2] at hO; cases hO
      · have hpe : p < minT t 76 := Nat.lt_of_not_le (fun z => c ((nI_leI (a := minT t 76) (b := p) (by omega) (by omega)).mpr z))
        rw [nI_clamp (by omega), t2]
        rw [show minT t 76 - p = (minT t 76 - (p + 1)) + 1 by omega] at hO
        refine ⟨nat_in (by omega) (by decide), (e_take (m0 := m) w1 f1 V C).to ?_⟩
        rintro r m2 ⟨w2, f2, h⟩
        rcases h with ⟨rfl, L2, e2, hL⟩ | ⟨rfl, e2⟩
        · rw [LO_s e2] at hO
          obtain ⟨st', dg', ln', sd', ar', fr', wp', il', sk'⟩ := L2
          refine ⟨1, rfl, fun _ => ?_, fun z => absurd z (by decide)⟩
          rw [nI_1]
          exact ih (p + 1) st' dg' ln' sd' ar' fr' wp' il' sk' m2 (by omega) (by omega) w2 f2 hL.1 hL.2 hO
        · rw [LO_f e2] at hO
          refine ⟨0, rfl, fun z => absurd rfl z, fun _ => ⟨w2, f2, fun q2 h2 => ?_, fun L2 h2 => ?_⟩⟩
          · rw [h2] at hO; cases hO; exact ⟨rfl, by omega⟩
          · rw [h2] at hO; cases hO
  refine v_X4_read (d := d + 3) St_21 ((e_copy w SS_16 SS_21 (by omega)).to ?_)
  rintro _ m1 ⟨w1, f1, rfl, k1, k2, k3⟩
  refine ⟨rfl, ?_⟩
  have g33 : m1.1 3 3 = nI n := (f1.at (a := 3) (k := 3) (by decide)).trans hn
  have g34 : m1.1 3 4 = nI a0 := (f1.at (a := 3) (k := 4) (by decide)).trans ha0
  have g35 : m1.1 3 5 = m.1 3 5 := f1.at (a := 3) (k := 5) (by decide)
  have g11 : m1.1 1 1 = nI t := (f1.at (a := 1) (k := 1) (by decide)).trans ht
  have e34 : (uI m1 15 1 (m1.1 3 3)).1 3 4 = nI a0 := g34
  have e35 : (uI (uI m1 15 1 (m1.1 3 3)) 15 2 ((uI m1 15 1 (m1.1 3 3)).1 3 4)).1 3 5 = m.1 3 5 := g35
  rw [e35, e34, g33]
  have e11 : (uI (uI (uI (uI (uI (uI m1 15 1 (nI n)) 15 2 (nI a0)) 15 3 (m.1 3 5)) 15 4 (0 : Int32)) 15 6 (0 : Int32)) 15 7 (0 : Int32)).1 1 1 = nI t := g11
  rw [e11, minT_i ht80]
  have tn0 : (nI n).toInt = n := nI_toInt (by omega)
  have ta0 : (nI a0).toInt = a0 := nI_toInt (by omega)
  refine L 81 0 0 0 0 n a0 n false il0 sk0 _ (by omega) (Nat.zero_le _) ((((((w1.t rfl (by omega) (by omega)).t rfl (by omega) (by omega)).n rfl).n rfl).n rfl).n rfl) ((((((f1.tr (Fx.rf (S := RS [3])) (RS_sub rfl)).i rfl).i rfl).i rfl).i rfl).i rfl |>.i rfl) ⟨by decide, hn8, h1, h4, Nat.le_refl _, fun q => absurd q (by decide), fun q => absurd q (by decide)⟩ ⟨rfl, fun q => absurd q (by decide), rfl, rfl, rfl, rfl, k3, hil, fun k hk => (k1 k hk).trans (hsk k hk), fun j s hj1 hj2 hs => ?_⟩ hO0
  rw [if_pos (by by_cases q : s < n; exact Or.inl q; exact Or.inr ⟨rfl, by omega⟩)]
  exact (u_ne (by omega)).trans ((u_ne (by omega)).trans ((u_ne (by omega)).trans ((u_ne (by omega)).trans ((u_ne (by omega)).trans ((u_ne (by omega)).trans (k2 j s hj1 hj2 hs))))))
/-- what stands behind a league that was taken -/
def lgC (m : Wm) (HZ : Prop) : LgSt → Wm → Prop
  | (_, _, _, sd, ar, fr, wp, il, sk), m' => m'.1 3 3 = nI sd ∧ m'.1 3 4 = nI ar ∧ m'.1 1 1 = 0 ∧ m'.1 31 1 = 0 ∧ (∀ k, k < 2 → m'.1 (173 + 7 * k) 4 = 0) ∧
    (if wp = true then m'.1 0 11 = 0 ∧ m'.1 0 15 = 0 ∧ (∀ P, m.2.2 0 9 = some P → m'.1 P 5 = 0 ∧ m'.1 P 6 = 0) else m'.1 0 11 = m.1 0 11 ∧ m'.1 0 15 = m.1 0 15 ∧ ∀ b k, 133 < b → b < 146 → m'.1 b k = m.1 b k) ∧
    (HZ → ∀ s, s < 8 → bt (m'.1 3 5) s = (decide (s < sd) && il s)) ∧ (∀ k, k < 32 → m'.1 22 k = sk k) ∧ m'.1 21 4 = m.1 21 4 ∧
    (∀ j s, 2 ≤ j → j ≤ 4 → s < 8 → m'.1 (21 + j) s = if s < fr ∨ (wp = false ∧ sd ≤ s) then m.1 (21 + j) s else 0)
theorem e_clearP {b0 : Nat} (hb0 : Pl b0) : Ct ad μX3_clear d [.ref (ad b0)] m (fun r m' => r = none ∧ m' = uI (uI m b0 5 0) b0 6 0) := v_X3_clear hb0 ⟨rfl, rfl⟩
def lcQ (m : Wm) (HZ : Prop) (O : Nat ⊕ LgSt) (r : Option Value) (m' : Wm) : Prop := WT m' ∧ Fx (RS [0, 3, 4, 7, 8, 13, 41, 42, 44, 53]) m m' ∧ (∀ k, m'.1 2 k = m.1 2 k) ∧ (∀ q, O = .inl q → r = some (.int (-1 - nI q)) ∧ m'.1 1 1 = 0 ∧ Fx (RS [0, 3]) m m') ∧
  ∀ st dg ln sd ar fr wp il sk, O = .inr (st, dg, ln, sd, ar, fr, wp, il, sk) → r = some (.int (nI ln)) ∧ lcV st dg sd ar fr wp ∧ lgC m HZ (st, dg, ln, sd, ar, fr, wp, il, sk) m'
theorem rg_7 {b : Nat} (k : Nat) (h1 : 133 < b) (h2 : b < 146) : rg b k = 7 := by
  have h : b = 134 ∨ b = 135 ∨ b = 136 ∨ b = 137 ∨ b = 138 ∨ b = 139 ∨ b = 140 ∨ b = 141 ∨ b = 142 ∨ b = 143 ∨ b = 144 ∨ b = 145 := by omega
  rcases h with rfl | rfl | rfl | rfl | rfl | rfl | rfl | rfl | rfl | rfl | rfl | rfl <;> rfl
theorem e_101 {m5 : Wm} {Q : Option Value → Wm → Prop} (w : WT m5) (h : Q (some (.int (m5.1 15 4))) (uI (uI m5 173 4 0) 180 4 0)) : AW ad E0 μX11_league (d + 1) Q 101 [(0, .ref (ad 0)), (2, .int 0)] [] m5 := by
  refine g_X11_league_101 ⟨fun c => absurd c (by decide), fun _ => ⟨nat_in (k := 0) (by decide) (by decide), 173, w.keepx (k := 0) (by decide), Ke_173, ?_⟩⟩
  refine g_X11_league_101 ⟨fun c => absurd c (by decide), fun _ => ⟨nat_in (k := 1) (by decide) (by decide), 180, w.keepx (k := 1) (by decide), Ke_180, ?_⟩⟩
  exact g_X11_league_101 ⟨fun _ => h, fun c => absurd (by decide) c⟩
theorem e_leagueC {n a0 t : Nat} {sk0 : Nat → Int32} {HZ : Prop} {il0 : Nat → Bool} (w : WT m) (hn : m.1 3 3 = nI n) (hn8 : n ≤ 8) (ha0 : m.1 3 4 = nI a0) (h1 : 1 ≤ a0) (h4 : a0 ≤ 4) (ht : m.1 1 1 = nI t) (ht80 : t ≤ 80) (ht0 : t ≠ 0) (hsk : ∀ k, k < 32 → m.1 22 k = sk0 k) (hil : HZ → ∀ s, s < 8 → bt (m.1 3 5) s = (decide (s < n) && il0 s)) :
    Ct ad μX11_league (d + 5) [.ref (ad 0)] m (lcQ m HZ (LO (m.1 2) (decide (76 < t)) (minT t 76) 0 (0, 0, 0, n, a0, n, false, il0, sk0))) := by
  refine v_X11_league (d := d + 4) ⟨fun _ => (e_read w hn hn8 ha0 h1 h4 ht ht80 hsk hil).to ?_, fun c => ?_⟩
  · generalize LO (m.1 2) (decide (76 < t)) (minT t 76) 0 (0, 0, 0, n, a0, n, false, il0, sk0) = O
    rintro r m1 ⟨w1, f1, hq, hL⟩
    have t2 : ∀ k, m1.1 2 k = m.1 2 k := fun k => f1.at (a := 2) (k := k) (by show ¬ (([3] : List Nat).elem 0 = true); decide)
    have w2 : WT (uI m1 1 1 (0 : Int32)) := w1.t rfl (by decide) (by decide)
    have f2 : Fx (RS [0, 3]) m (uI m1 1 1 (0 : Int32)) := ((Fx.rf (S := RS [0, 3])).tr f1 (RS_sub rfl)).i rfl
    cases hO : O with
    | inl q =>
      obtain ⟨rfl, q76⟩ := hq q hO
      refine ⟨nI q, rfl, fun z => absurd z.symm (m1_ne q (by omega)), fun _ => ⟨w2, (Fx.rf (S := RS [0, 3, 4, 7, 8, 13, 41, 42, 44, 53])).tr f2 (RS_sub rfl), t2, fun q2 h2 => ?_, fun _ _ _ _ _ _ _ _ _ h2 => by cases h2⟩⟩
      cases h2
      exact ⟨rfl, rfl, f2⟩
    | inr L =>
      obtain ⟨rfl, hC⟩ := hL L hO
      obtain ⟨st, dg, ln, sd, ar, fr, wp, il, sk⟩ := L
      obtain ⟨V, C⟩ := hC
      obtain ⟨c1, c2, c3, c4, c5, c6, c7, c8, c9, c10⟩ := C
      have V0 := V
      obtain ⟨V1, V2, V3, V4, V5, V6, V7⟩ := V
      refine ⟨-1, rfl, fun _ => ?_, fun z => absurd rfl z⟩
      refine v_X4_enter (d := d + 3) St_21 ((e_copy w2 SS_21 SS_16 (by omega)).to ?_)
      rintro _ m3 ⟨w3, f3, rfl, k1, k2, k3⟩
      refine ⟨rfl, rfl, ?_⟩
      have g15 : ∀ k, m3.1 15 k = m1.1 15 k := fun k => f3.at (a := 15) (k := k) (by show ¬ (([4] : List Nat).elem 3 = true); decide)
      have tsd : (nI sd).toInt = sd := nI_toInt (by omega)
      have tar : (nI ar).toInt = ar := nI_toInt (by omega)
      have e2 : (uI m3 3 3 (m3.1 15 1)).1 15 2 = nI ar := (g15 2).trans c5
      have e3 : (uI (uI m3 3 3 (m3.1 15 1)) 3 4 ((uI m3 3 3 (m3.1 15 1)).1 15 2)).1 15 3 = m1.1 15 3 := g15 3
      rw [e3, e2, (g15 1).trans c4]
      have w4 : WT (uI (uI (uI m3 3 3 (nI sd)) 3 4 (nI ar)) 3 5 (m1.1 15 3)) := ((w3.t rfl (by omega) (by omega)).t rfl (by omega) (by omega)).n rfl
      have f4 : Fx (RS [0, 3, 4, 41, 42]) m (uI (uI (uI m3 3 3 (nI sd)) 3 4 (nI ar)) 3 5 (m1.1 15 3)) := (((((Fx.rf (S := RS [0, 3, 4, 41, 42])).tr f2 (RS_sub rfl)).tr f3 (RS_sub rfl)).i rfl).i rfl).i rfl
      have e157 : (uI (uI (uI m3 3 3 (nI sd)) 3 4 (nI ar)) 3 5 (m1.1 15 3)).1 15 7 = if wp = true then 1 else 0 := (g15 7).trans c6
      have e154 : (uI (uI (uI m3 3 3 (nI sd)) 3 4 (nI ar)) 3 5 (m1.1 15 3)).1 15 4 = nI ln := (g15 4).trans c3
      have j33 : (uI (uI (uI m3 3 3 (nI sd)) 3 4 (nI ar)) 3 5 (m1.1 15 3)).1 3 3 = nI sd := rfl
      have j34 : (uI (uI (uI m3 3 3 (nI sd)) 3 4 (nI ar)) 3 5 (m1.1 15 3)).1 3 4 = nI ar := rfl
      have j35 : (uI (uI (uI m3 3 3 (nI sd)) 3 4 (nI ar)) 3 5 (m1.1 15 3)).1 3 5 = m1.1 15 3 := rfl
      have j11 : (uI (uI (uI m3 3 3 (nI sd)) 3 4 (nI ar)) 3 5 (m1.1 15 3)).1 1 1 = 0 := f3.at (a := 1) (k := 1) (by decide)
      have j2 : ∀ k, (uI (uI (uI m3 3 3 (nI sd)) 3 4 (nI ar)) 3 5 (m1.1 15 3)).1 2 k = m.1 2 k := fun k => (f3.at (a := 2) (k := k) (by show ¬ (([4] : List Nat).elem 0 = true); decide)).trans (t2 k)
      have j22 : ∀ k, k < 32 → (uI (uI (uI m3 3 3 (nI sd)) 3 4 (nI ar)) 3 5 (m1.1 15 3)).1 22 k = sk k := fun k hk => (k1 k hk).trans (c9 k hk)
      have j21 : (uI (uI (uI m3 3 3 (nI sd)) 3 4 (nI ar)) 3 5 (m1.1 15 3)).1 21 4 = m.1 21 4 := k3.trans c7
      have j23 : ∀ j s, 2 ≤ j → j ≤ 4 → s < 8 → (uI (uI (uI m3 3 3 (nI sd)) 3 4 (nI ar)) 3 5 (m1.1 15 3)).1 (21 + j) s = if s < fr ∨ (wp = false ∧ sd ≤ s) then m.1 (21 + j) s else 0 := fun j s a1 a2 hs => (u_ne (by omega)).trans ((u_ne (by omega)).trans ((u_ne (by omega)).trans ((k2 j s a1 a2 hs).trans ((u_ne (by omega)).trans (c10 j s a1 a2 hs)))))
      generalize uI (uI (uI m3 3 3 (nI sd)) 3 4 (nI ar)) 3 5 (m1.1 15 3) = m4 at w4 f4 e157 e154 j33 j34 j35 j11 j2 j22 j21 j23 ⊢
      rw [e157]
      refine ⟨fun hw => ?_, fun hw => ?_⟩
      · have hwp : wp = false := by
          cases wp with
          | false => rfl
          | true => exact absurd hw (by decide)
        subst hwp
        refine e_101 (d := d + 4) (w4.t rfl (by decide) (by decide)) ⟨((w4.t rfl (by decide) (by decide)).n rfl).n rfl, ((((Fx.rf (S := RS [0, 3, 4, 7, 8, 13, 41, 42, 44, 53])).tr f4 (RS_sub rfl)).i rfl).i rfl).i rfl, j2, fun q hq' => (by cases hq'), fun st' dg' ln' sd' ar' fr' wp' il' sk' hq' => ?_⟩
        cases hq'
        refine ⟨congrArg (fun z => some (Value.int z)) e154, V0, j33, j34, j11, rfl, fun k hk => ?_, ⟨f4.at (a := 0) (k := 11) (by decide), f4.at (a := 0) (k := 15) (by decide), fun b k h1 h2 => ?_⟩, fun hz s hs => (congrArg (fun z => bt z s) j35).trans (c8 hz s hs), fun k hk => j22 k hk, j21, fun j s a1 a2 hs => ?_⟩
        · have hk2 : k = 0 ∨ k = 1 := by omega
          rcases hk2 with rfl | rfl <;> rfl
        · refine (u_ne (by omega)).trans ((u_ne (by omega)).trans ((u_ne (by omega)).trans (f4.at ?_)))
          show ¬ (([0, 3, 4, 41, 42] : List Nat).elem (rg b k) = true)
          rw [rg_7 k h1 h2]
          decide
        · exact (u_ne (by omega)).trans ((u_ne (by omega)).trans ((u_ne (by omega)).trans (j23 j s a1 a2 hs)))
      · have hwp : wp = true := by
          cases wp with
          | true => rfl
          | false => exact absurd rfl hw
        subst hwp
        obtain ⟨P, hP, hPP⟩ := w4.r09
        have hP0 : m.2.2 0 9 = some P := (f4 0 9 (by decide)).2.2.symm.trans hP
        refine ⟨P, hP, Pl_of hPP, (e_clearP (Pl_of hPP)).to ?_⟩
        rintro _ m5 ⟨rfl, e⟩
        subst e
        refine ⟨rfl, ?_⟩
        have w5 : WT (uI (uI (uI (uI (uI m4 P 5 0) P 6 0) 0 11 0) 0 15 0) 31 1 0) := by
          rcases hPP with rfl | rfl
          · exact ((((w4.t rfl (by decide) (by decide)).t rfl (by decide) (by decide)).n rfl).t rfl (by decide) (by decide)).t rfl (by decide) (by decide)
          · exact ((((w4.t rfl (by decide) (by decide)).t rfl (by decide) (by decide)).n rfl).t rfl (by decide) (by decide)).t rfl (by decide) (by decide)
        have f5 : Fx (RS [0, 3, 4, 7, 8, 13, 41, 42, 44, 53]) m (uI (uI (uI (uI (uI m4 P 5 0) P 6 0) 0 11 0) 0 15 0) 31 1 0) := by
          have f4' := (Fx.rf (S := RS [0, 3, 4, 7, 8, 13, 41, 42, 44, 53])).tr f4 (RS_sub rfl)
          rcases hPP with rfl | rfl
          · exact ((((f4'.i rfl).i rfl).i rfl).i rfl).i rfl
          · exact ((((f4'.i rfl).i rfl).i rfl).i rfl).i rfl
        have e154' : (uI (uI (uI (uI (uI m4 P 5 0) P 6 0) 0 11 0) 0 15 0) 31 1 0).1 15 4 = nI ln := by
          rcases hPP with rfl | rfl <;> exact e154
        refine e_101 (d := d + 4) w5 ⟨(w5.n rfl).n rfl, (f5.i rfl).i rfl, fun k => ?_, fun q hq' => (by cases hq'), fun st' dg' ln' sd' ar' fr' wp' il' sk' hq' => ?_⟩
        · rcases hPP with rfl | rfl <;> exact j2 k
        · cases hq'
          refine ⟨congrArg (fun z => some (Value.int z)) e154', V0, ?_⟩
          have hP2 : ∀ P', m.2.2 0 9 = some P' → P' = P := fun P' h => by rw [hP0] at h; cases h; rfl
          have hb : P < 146 ∧ 133 < P := by omega
          refine ⟨?_, ?_, ?_, rfl, fun k hk => ?_, ⟨rfl, rfl, fun P' h => ?_⟩, fun hz s hs => ?_, fun k hk => ?_, ?_, fun j s a1 a2 hs => ?_⟩
          · exact (u_ne (by omega)).trans ((u_ne (by omega)).trans ((u_ne (by omega)).trans ((u_ne (by omega)).trans ((u_ne (by omega)).trans ((u_ne (by omega)).trans ((u_ne (by omega)).trans j33))))))
          · exact (u_ne (by omega)).trans ((u_ne (by omega)).trans ((u_ne (by omega)).trans ((u_ne (by omega)).trans ((u_ne (by omega)).trans ((u_ne (by omega)).trans ((u_ne (by omega)).trans j34))))))
          · exact (u_ne (by omega)).trans ((u_ne (by omega)).trans ((u_ne (by omega)).trans ((u_ne (by omega)).trans ((u_ne (by omega)).trans ((u_ne (by omega)).trans ((u_ne (by omega)).trans j11))))))
          · have hk2 : k = 0 ∨ k = 1 := by omega
            rcases hk2 with rfl | rfl <;> rfl
          · obtain rfl := hP2 P' h
            rcases hPP with rfl | rfl <;> exact ⟨rfl, rfl⟩
          · have e35 : (uI (uI (uI (uI (uI (uI (uI m4 P 5 0) P 6 0) 0 11 0) 0 15 0) 31 1 0) 173 4 0) 180 4 0).1 3 5 = m1.1 15 3 := (u_ne (by omega)).trans ((u_ne (by omega)).trans ((u_ne (by omega)).trans ((u_ne (by omega)).trans ((u_ne (by omega)).trans ((u_ne (by omega)).trans ((u_ne (by omega)).trans j35))))))
            rw [e35]
            exact c8 hz s hs
          · exact (u_ne (by omega)).trans ((u_ne (by omega)).trans ((u_ne (by omega)).trans ((u_ne (by omega)).trans ((u_ne (by omega)).trans ((u_ne (by omega)).trans ((u_ne (by omega)).trans (j22 k hk)))))))
          · exact (u_ne (by omega)).trans ((u_ne (by omega)).trans ((u_ne (by omega)).trans ((u_ne (by omega)).trans ((u_ne (by omega)).trans ((u_ne (by omega)).trans ((u_ne (by omega)).trans j21))))))
          · exact (u_ne (by omega)).trans ((u_ne (by omega)).trans ((u_ne (by omega)).trans ((u_ne (by omega)).trans ((u_ne (by omega)).trans ((u_ne (by omega)).trans ((u_ne (by omega)).trans (j23 j s a1 a2 hs)))))))
  · rw [ht] at c
    exact absurd ((nI_eq (a := t) (b := 0) (by omega) (by decide)).mp c) ht0
end LCL
end
section
/-! SHEETS, exactly -/
def cl7 (x : Int32) : Int32 := if 0 ≤ x then (if x ≤ 7 then x else 7) else 0
def shE (kind x : Int32) : Int32 := if kind = 0 then x.toInt8.toInt32 else if kind = 1 then x.toInt16.toInt32 else x
def shV (kind n f step : Int32) (s : Nat) : Int32 := if kind = 3 then 0 else if nI s < n then cl7 (shE kind (f + nI s * step)) else 0
def shS (V : Nat → Int32) : Nat → Int32
  | 0 => 0
  | k + 1 => shS V k + V k
def shG (a0 : Nat) (x1 x2 x3 : Int32) : Prop := (0 ≤ x1.toInt ∧ x1.toInt < a0) ∧ (0 ≤ x2.toInt ∧ x2.toInt ≤ 3) ∧ x3.toInt ≤ 8
/-- what a sheet answers; b: it is one -/
def shQ (n a0 : Nat) (x1 x2 x3 x4 x5 : Int32) (c a : Nat) (S : List Nat) (m : Wm) (r : Option Value) (m' : Wm) : Prop := WT m' ∧ Fx (RS S) m m' ∧
  ((¬ shG a0 x1 x2 x3 ∧ r = some (.int (-1)) ∧ m'.1 c = m.1 c) ∨ (shG a0 x1 x2 x3 ∧ x2.toInt ≠ 3 ∧ x3.toInt < 0 ∧ r = some (.int (-2)) ∧ m'.1 c = m.1 c) ∨
   (shG a0 x1 x2 x3 ∧ (x2.toInt = 3 ∨ 0 ≤ x3.toInt) ∧ r = some (.int (if x2 = 3 then -3 else shS (shV x2 x3 x4 x5) n)) ∧ ∀ k, m'.1 c k = if k < 4 * n ∧ k % 4 = a then shV x2 x3 x4 x5 (k / 4) else m.1 c k))
section SHT
variable {ad : Nat → Nat} {d : Nat} {m : Wm} {n a0 : Nat} {x1 x2 x3 x4 x5 : Int32}
theorem cl7_m (x : Int32) : (if (0 : Int32) < (if x < (7 : Int32) then x else (7 : Int32)) then (if x < (7 : Int32) then x else (7 : Int32)) else (0 : Int32)) = cl7 x := by
  have z7 : (7 : Int32).toInt = 7 := rfl
  have z0 : (0 : Int32).toInt = 0 := rfl
  unfold cl7
  by_cases h : x < 7
  · rw [if_pos h]
    have h7 := z_lt h
    by_cases h0 : 0 < x
    · have := z_lt h0
      rw [if_pos h0, if_pos ((fa_le _ _).mpr (by omega)), if_pos ((fa_le _ _).mpr (by omega))]
    · have := z_nlt h0
      rw [if_neg h0]
      by_cases h1 : 0 ≤ x
      · have := z_le h1
        rw [if_pos h1, if_pos ((fa_le _ _).mpr (by omega))]
        exact (fa_eq _ _).mpr (by omega)
      · rw [if_neg h1]
  · rw [if_neg h]
    have h7 := z_nlt h
    rw [if_pos (by decide), if_pos ((fa_le _ _).mpr (by omega))]
    by_cases h1 : x ≤ 7
    · have := z_le h1
      rw [if_pos h1]
      exact (fa_eq _ _).mpr (by omega)
    · rw [if_neg h1]
theorem e_has (hn : m.1 3 3 = nI n) (hn8 : n ≤ 8) {x : Int32} : Ct ad μX1_has d [.ref (ad 3), .int x] m (fun r m' => m' = m ∧ r = some (.int (if 0 ≤ x.toInt ∧ x.toInt < n then 1 else 0))) := by
  have tn' : (nI n).toInt = n := nI_toInt (by omega)
  refine v_X1_has ?_
  rw [hn]
  refine ⟨fun c => ⟨rfl, ?_⟩, fun c => ⟨fun c2 => ⟨rfl, ?_⟩, fun c2 => ⟨rfl, ?_⟩⟩⟩
  · have := y_ltr (n := 0) rfl c
    rw [if_neg (by omega)]
  · have := z_le c2
    rw [if_neg (by omega)]
  · have h1 := y_nltr (n := 0) rfl c
    have h2 := z_nle c2
    rw [if_pos (by omega)]
theorem e_knows (ha : m.1 3 4 = nI a0) (ha4 : a0 ≤ 4) {x : Int32} : Ct ad μX1_knows d [.ref (ad 3), .int x] m (fun r m' => m' = m ∧ r = some (.int (if 0 ≤ x.toInt ∧ x.toInt < a0 then 1 else 0))) := by
  have tn' : (nI a0).toInt = a0 := nI_toInt (by omega)
  refine v_X1_knows ?_
  rw [ha]
  refine ⟨fun c => ⟨rfl, ?_⟩, fun c => ⟨fun c2 => ⟨rfl, ?_⟩, fun c2 => ⟨rfl, ?_⟩⟩⟩
  · have := y_ltr (n := 0) rfl c
    rw [if_neg (by omega)]
  · have := z_le c2
    rw [if_neg (by omega)]
  · have h1 := y_nltr (n := 0) rfl c
    have h2 := z_nle c2
    rw [if_pos (by omega)]
theorem le1_iff {x : Int32} {n : Nat} (hn : n < 100) : (0 ≤ x ∧ x ≤ nI n - 1) ↔ (0 ≤ x.toInt ∧ x.toInt < n) := by
  have tn' : (nI n).toInt = n := nI_toInt (by omega)
  have z1 : (1 : Int32).toInt = 1 := rfl
  have z0 : (0 : Int32).toInt = 0 := rfl
  have e := ti_sub (x := nI n) (y := 1) (by omega)
  rw [fa_le, fa_le, z0, e, tn', z1]
  omega
theorem e_isSide (hn : m.1 187 1 = nI n) (hn8 : n ≤ 8) {x : Int32} : Ct ad μX12_isSide (d + 1) [.ref (ad 187), .int x] m (fun r m' => m' = m ∧ r = some (.int (if 0 ≤ x.toInt ∧ x.toInt < n then 1 else 0))) := by
  have h := isSide_ok (ad := ad) (d := d) (m := m) (x := x)
  rw [hn] at h
  refine h.to ?_
  rintro r m' ⟨e, e2⟩
  refine ⟨e, e2.trans ?_⟩
  by_cases hc : 0 ≤ x ∧ x ≤ nI n - 1
  · rw [if_pos hc, if_pos ((le1_iff (by omega)).mp hc)]
  · rw [if_neg hc, if_neg (fun q => hc ((le1_iff (by omega)).mpr q))]
theorem e_isArt (ha : m.1 187 0 = nI a0) (ha4 : a0 ≤ 4) {x : Int32} : Ct ad μX12_isArt (d + 1) [.ref (ad 187), .int x] m (fun r m' => m' = m ∧ r = some (.int (if 0 ≤ x.toInt ∧ x.toInt < a0 then 1 else 0))) := by
  have h := isArt_ok (ad := ad) (d := d) (m := m) (x := x)
  rw [ha] at h
  refine h.to ?_
  rintro r m' ⟨e, e2⟩
  refine ⟨e, e2.trans ?_⟩
  by_cases hc : 0 ≤ x ∧ x ≤ nI a0 - 1
  · rw [if_pos hc, if_pos ((le1_iff (by omega)).mp hc)]
  · rw [if_neg hc, if_neg (fun q => hc ((le1_iff (by omega)).mpr q))]
theorem e_entry {k x : Int32} : Ct ad μX11_entry d [.int k, .int x] m (fun r m' => m' = m ∧ r = some (.int (shE k x))) := by
  refine v_X11_entry ⟨fun c => ⟨fun c2 => ⟨rfl, ?_⟩, fun c2 => ⟨rfl, ?_⟩⟩, fun c => ⟨rfl, ?_⟩⟩
  · unfold shE; rw [if_neg c, if_neg c2]
  · unfold shE; rw [if_neg c, if_pos c2]
  · unfold shE; rw [if_pos c]
theorem e_clamp7 {x : Int32} : Ct ad μX11_clamp d [.int x, .int (0 : Int32), .int (7 : Int32)] m (fun r m' => m' = m ∧ r = some (.int (cl7 x))) := by
  refine v_X11_clamp ⟨fun c => ⟨fun c2 => ⟨rfl, ?_⟩, fun c2 => ⟨rfl, ?_⟩⟩, fun c => ⟨rfl, ?_⟩⟩
  · unfold cl7; rw [if_pos c, if_pos c2]
  · unfold cl7; rw [if_pos c, if_neg c2]
  · unfold cl7; rw [if_neg c]
/-- the skills while side s is next -/
def shM (V : Nat → Int32) (a s : Nat) (f f' : Nat → Int32) : Prop := ∀ k, f' k = if k < 4 * s ∧ k % 4 = a then V (k / 4) else f k
theorem shM_0 {V : Nat → Int32} {a : Nat} {f : Nat → Int32} : shM V a 0 f f := fun k => by rw [if_neg (by omega)]
theorem shM_s {V : Nat → Int32} {a s : Nat} {f : Nat → Int32} {m1 : Wm} {c : Nat} (h : shM V a s f (m1.1 c)) (ha : a < 4) : shM V a (s + 1) f ((uI m1 c (4 * s + a) (V s)).1 c) := fun k => by
  by_cases hk : k = 4 * s + a
  · subst hk
    rw [u_eq, if_pos (by omega), show (4 * s + a) / 4 = s by omega]
  · rw [u_ne (fun q => hk q.2), h k]
    by_cases hc : k < 4 * s ∧ k % 4 = a
    · rw [if_pos hc, if_pos (by omega)]
    · rw [if_neg hc, if_neg (by omega)]
theorem e_sheetC (w : WT m) (hn : m.1 3 3 = nI n) (hn8 : n ≤ 8) (ha : m.1 3 4 = nI a0) (ha4 : a0 ≤ 4) : Ct ad μX11_sheet (d + 1) [.ref (ad 0), .int x1, .int x2, .int x3, .int x4, .int x5] m (fun r m' => shQ n a0 x1 x2 x3 x4 x5 22 x1.toNatClampNeg [4, 53] m r m' ∧ (shG a0 x1 x2 x3 ∧ (x2.toInt = 3 ∨ 0 ≤ x3.toInt) → m'.1 31 1 = 0) ∧ (¬ (shG a0 x1 x2 x3 ∧ (x2.toInt = 3 ∨ 0 ≤ x3.toInt)) → m' = m) ∧ ∀ b k, b ≠ 22 → b ≠ 31 → m'.1 b k = m.1 b k) := by
  generalize hQ : (fun (r : Option Value) (m' : Wm) => shQ n a0 x1 x2 x3 x4 x5 22 x1.toNatClampNeg [4, 53] m r m' ∧ (shG a0 x1 x2 x3 ∧ (x2.toInt = 3 ∨ 0 ≤ x3.toInt) → m'.1 31 1 = 0) ∧ (¬ (shG a0 x1 x2 x3 ∧ (x2.toInt = 3 ∨ 0 ≤ x3.toInt)) → m' = m) ∧ ∀ b k, b ≠ 22 → b ≠ 31 → m'.1 b k = m.1 b k) = Q
  have bad : ¬ shG a0 x1 x2 x3 → Q (some (.int (-1))) m := fun h => by
    rw [← hQ]
    exact ⟨⟨w, Fx.rf, Or.inl ⟨h, rfl, rfl⟩⟩, fun q => absurd q.1 h, fun _ => rfl, fun _ _ _ _ => rfl⟩
  refine v_X11_sheet ((e_knows ha ha4).to ?_)
  rintro _ m' ⟨eq, rfl⟩
  obtain rfl := eq.symm
  by_cases hk : 0 ≤ x1.toInt ∧ x1.toInt < a0
  · refine ⟨1, by rw [if_pos hk], fun z => absurd z (by decide), fun _ => ⟨fun c => bad (fun z => ?_), fun c => ⟨fun c2 => bad (fun z => ?_), fun c2 => ⟨fun c3 => ?_, fun c3 => bad (fun z => ?_)⟩⟩⟩⟩
    · have := y_ltr (n := 0) rfl c; have := z.2.1; omega
    · have := y_ltl (n := 3) rfl c2; have := z.2.1; omega
    · have k2a := y_nltr (n := 0) rfl c
      have k2b := y_nltl (n := 3) rfl c2
      have k3 := y_ler (n := 8) rfl c3
      have G : shG a0 x1 x2 x3 := ⟨hk, ⟨k2a, k2b⟩, k3⟩
      obtain ⟨a, ha2, ea⟩ := zn_of hk.1
      have ta : x1.toInt = a := by rw [ea, nI_toInt ha2]
      have ca : x1.toNatClampNeg = a := by rw [ea, nI_clamp ha2]
      have ha44 : a < 4 := by omega
      have L : ∀ (s0 : Int32), (s0 = if x2 = 3 then 1 else 0) → (x2.toInt = 3 ∨ 0 ≤ x3.toInt) → ∀ (j s : Nat) (m1 : Wm), s + j = n → WT m1 → Fx (RS [4, 53]) m m1 → (∀ b k, b ≠ 22 → b ≠ 31 → m1.1 b k = m.1 b k) → shM (shV x2 x3 x4 x5) a s (m.1 22) (m1.1 22) →
          AW ad E0 μX11_sheet (d + 1) Q 58 [(0, .ref (ad 0)), (1, .int x1), (2, .int x2), (3, .int x3), (4, .int x4), (5, .int x5), (6, .int s0), (7, .int (shS (shV x2 x3 x4 x5) s)), (8, .int (nI s))] [] m1 := by
        intro s0 hs0 hok j
        induction j with
        | zero =>
          intro s m1 hs w1 f1 hb hM
          obtain rfl : s = n := hs
          have e33 : m1.1 3 3 = nI s := (f1.at (a := 3) (k := 3) (by decide)).trans hn
          have fin : ∀ r, r = some (Value.int (if x2 = 3 then -3 else shS (shV x2 x3 x4 x5) s)) → Q r (uI m1 31 1 0) := fun r hr => by
            rw [← hQ]
            refine ⟨⟨w1.t rfl (by decide) (by decide), f1.i rfl, Or.inr (Or.inr ⟨G, hok, hr, fun k => ?_⟩)⟩, fun _ => rfl, fun z => absurd ⟨G, hok⟩ z, fun b k h1 h2 => (u_ne (fun q => h2 q.1)).trans (hb b k h1 h2)⟩
            rw [ca]
            exact (u_ne (by omega)).trans (hM k)
          refine g_X11_sheet_58 ⟨fun _ => ⟨fun c0 => fin _ ?_, fun c0 => fin _ ?_⟩, fun z => absurd (by rw [e33]; exact (nI_leI (by omega) (by omega)).mpr (Nat.le_refl _)) z⟩
          · by_cases h3 : x2 = 3
            · rw [hs0, if_pos h3] at c0; exact absurd c0 (by decide)
            · rw [if_neg h3]
          · by_cases h3 : x2 = 3
            · rw [if_pos h3]
            · rw [hs0, if_neg h3] at c0; exact absurd rfl c0
        | succ j ih =>
          intro s m1 hs w1 f1 hb hM
          have e33 : m1.1 3 3 = nI n := (f1.at (a := 3) (k := 3) (by decide)).trans hn
          have put : ∀ v, v = shV x2 x3 x4 x5 s → AW ad E0 μX11_sheet (d + 1) Q 103 [(0, .ref (ad 0)), (1, .int x1), (2, .int x2), (3, .int x3), (4, .int x4), (5, .int x5), (6, .int s0), (7, .int (shS (shV x2 x3 x4 x5) s)), (8, .int (nI s))] [.int v] m1 := fun v hv => by
            subst hv
            refine g_X11_sheet_103 ((e_putS (i := 4 * s + a) St_21 (by rw [mul_l 4 4 rfl, ea, nI_add, Nat.mul_comm s 4]) (by omega)).to ?_)
            rintro _ m2 ⟨rfl, e⟩
            subst e
            refine ⟨rfl, ?_⟩
            rw [nI_1]
            exact ih (s + 1) _ (by omega) (w1.n rfl) (f1.i rfl) (fun b k h1 h2 => (u_ne (fun q => h1 q.1)).trans (hb b k h1 h2)) (shM_s (c := 22) hM ha44)
          refine g_X11_sheet_58 ⟨fun z => absurd (by rw [e33] at z; exact (nI_leI (by omega) (by omega)).mp z) (by omega), fun _ => ⟨fun c0 => put _ ?_, fun c0 => ⟨fun cs => e_entry.to ?_, fun cs => put _ ?_⟩⟩⟩
          · have h3 : x2 = 3 := by
              by_cases h3 : x2 = 3
              · exact h3
              · rw [hs0, if_neg h3] at c0; exact absurd rfl c0
            unfold shV; rw [if_pos h3]
          · have h3 : ¬ x2 = 3 := fun h3 => by rw [hs0, if_pos h3] at c0; exact absurd c0 (by decide)
            rintro _ m' ⟨eq, rfl⟩
            obtain rfl := eq.symm
            refine ⟨_, rfl, e_clamp7.to ?_⟩
            rintro _ m' ⟨eq, rfl⟩
            obtain rfl := eq.symm
            refine ⟨_, rfl, put _ ?_⟩
            unfold shV; rw [if_neg h3, if_pos cs]
          · have h3 : ¬ x2 = 3 := fun h3 => by rw [hs0, if_pos h3] at c0; exact absurd c0 (by decide)
            unfold shV; rw [if_neg h3, if_neg cs]
      have two : x2.toInt ≠ 3 → x3.toInt < 0 → Q (some (.int (-2))) m := fun h3 h4 => by
        rw [← hQ]
        exact ⟨⟨w, Fx.rf, Or.inr (Or.inl ⟨G, h3, h4, rfl, rfl⟩)⟩, fun q => absurd q.2 (by omega), fun _ => rfl, fun _ _ _ _ => rfl⟩
      refine ⟨fun c4 => ?_, fun c4 => ?_⟩
      · refine g_X11_sheet_38 ⟨fun c5 => L 0 (by rw [if_neg c4]) (Or.inr (y_lel (n := 0) rfl c5)) n 0 m (by omega) w Fx.rf (fun _ _ _ _ => rfl) shM_0, fun c5 => ⟨fun z => absurd rfl z, fun _ => two (y_ner (n := 3) rfl c4) (y_nlel (n := 0) rfl c5)⟩⟩
      · have t3 : x2.toInt = 3 := y_eqr (n := 3) rfl c4
        refine g_X11_sheet_38 ⟨fun c5 => L 1 (by rw [if_pos c4]) (Or.inl t3) n 0 m (by omega) w Fx.rf (fun _ _ _ _ => rfl) shM_0, fun c5 => ⟨fun _ => L 1 (by rw [if_pos c4]) (Or.inl t3) n 0 m (by omega) w Fx.rf (fun _ _ _ _ => rfl) shM_0, fun z => absurd z (by decide)⟩⟩
    · have := y_nler (n := 8) rfl c3; have := z.2.2; omega
  · exact ⟨0, by rw [if_neg hk], fun _ => bad (fun z => hk z.1), fun z => absurd rfl z⟩
theorem step_s (f step : Int32) (s : Nat) : f + nI s * step + step = f + nI (s + 1) * step := by
  rw [← nI_1 s, Int32.add_mul, Int32.one_mul, Int32.add_assoc]
theorem e_sheetM (w : WT m) (hn : m.1 187 1 = nI n) (hn8 : n ≤ 8) (ha : m.1 187 0 = nI a0) (ha4 : a0 ≤ 4) : Ct ad μX12_sheet (d + 2) [.ref (ad 187), .int x1, .int x2, .int x3, .int x4, .int x5] m (fun r m' => shQ n a0 x1 x2 x3 x4 x5 188 x1.toNatClampNeg [20, 24, 29] m r m' ∧ (shG a0 x1 x2 x3 ∧ (x2.toInt = 3 ∨ 0 ≤ x3.toInt) → m'.1 187 30 = 0) ∧ (¬ (shG a0 x1 x2 x3 ∧ (x2.toInt = 3 ∨ 0 ≤ x3.toInt)) → Fx (RS [20]) m m') ∧ ∀ b k, b ≠ 187 → b ≠ 188 → m'.1 b k = m.1 b k) := by
  generalize hQ : (fun (r : Option Value) (m' : Wm) => shQ n a0 x1 x2 x3 x4 x5 188 x1.toNatClampNeg [20, 24, 29] m r m' ∧ (shG a0 x1 x2 x3 ∧ (x2.toInt = 3 ∨ 0 ≤ x3.toInt) → m'.1 187 30 = 0) ∧ (¬ (shG a0 x1 x2 x3 ∧ (x2.toInt = 3 ∨ 0 ≤ x3.toInt)) → Fx (RS [20]) m m') ∧ ∀ b k, b ≠ 187 → b ≠ 188 → m'.1 b k = m.1 b k) = Q
  have w0 : WT (uI m 187 17 0) := w.n rfl
  have hn0 : (uI m 187 17 0).1 187 1 = nI n := hn
  have ha0 : (uI m 187 17 0).1 187 0 = nI a0 := ha
  have f0 : Fx (RS [20, 24, 29]) m (uI m 187 17 0) := Fx.rf.i rfl
  have bad : ¬ shG a0 x1 x2 x3 → Q (some (.int (-1))) (uI m 187 17 0) := fun h => by
    rw [← hQ]
    exact ⟨⟨w0, f0, Or.inl ⟨h, rfl, rfl⟩⟩, fun q => absurd q.1 h, fun _ => Fx.rf.i rfl, fun b k h1 _ => u_ne (fun q => h1 q.1)⟩
  have two : shG a0 x1 x2 x3 → x2.toInt ≠ 3 → x3.toInt < 0 → Q (some (.int (-2))) (uI m 187 17 0) := fun G h3 h4 => by
    rw [← hQ]
    exact ⟨⟨w0, f0, Or.inr (Or.inl ⟨G, h3, h4, rfl, rfl⟩)⟩, fun q => absurd q.2 (by omega), fun _ => Fx.rf.i rfl, fun b k h1 _ => u_ne (fun q => h1 q.1)⟩
  have L : shG a0 x1 x2 x3 → (x2.toInt = 3 ∨ 0 ≤ x3.toInt) → ∀ (j s : Nat) (m1 : Wm), s + j = n → WT m1 → Fx (RS [20, 24, 29]) m m1 → (∀ b k, b ≠ 187 → b ≠ 188 → m1.1 b k = m.1 b k) → shM (shV x2 x3 x4 x5) x1.toNatClampNeg s (m.1 188) (m1.1 188) →
      AW ad E0 μX12_sheet (d + 2) Q 55 [(0, .ref (ad 187)), (1, .int x1), (2, .int x2), (3, .int x3), (5, .int x5), (6, .int (shS (shV x2 x3 x4 x5) s)), (7, .int (x4 + nI s * x5)), (8, .int (nI s))] [] m1 := by
    intro G hok j
    obtain ⟨a, ha2, ea⟩ := zn_of G.1.1
    have ta : x1.toInt = a := by rw [ea, nI_toInt ha2]
    have ca : x1.toNatClampNeg = a := by rw [ea, nI_clamp ha2]
    have hG := G.1
    have ha44 : a < 4 := by omega
    rw [ca]
    induction j with
    | zero =>
      intro s m1 hs w1 f1 hb hM
      obtain rfl : s = n := hs
      have e33 : m1.1 187 1 = nI s := (f1.at (a := 187) (k := 1) (by decide)).trans hn
      have fin : ∀ r, r = some (Value.int (if x2 = 3 then -3 else shS (shV x2 x3 x4 x5) s)) → Q r (uI m1 187 30 0) := fun r hr => by
        rw [← hQ]
        refine ⟨⟨w1.t rfl (by decide) (by decide), f1.i rfl, Or.inr (Or.inr ⟨G, hok, hr, fun k => ?_⟩)⟩, fun _ => rfl, fun z => absurd ⟨G, hok⟩ z, fun b k h1 h2 => (u_ne (fun q => h1 q.1)).trans (hb b k h1 h2)⟩
        rw [ca]
        exact (u_ne (by omega)).trans (hM k)
      refine g_X12_sheet_55 ⟨fun _ => ⟨fun c0 => fin _ (by rw [if_neg c0]), fun c0 => fin _ (by rw [if_pos c0])⟩, fun z => absurd (by rw [e33]; exact (nI_leI (by omega) (by omega)).mpr (Nat.le_refl _)) z⟩
    | succ j ih =>
      intro s m1 hs w1 f1 hb hM
      have e33 : m1.1 187 1 = nI n := (f1.at (a := 187) (k := 1) (by decide)).trans hn
      have put : ∀ v, v = shV x2 x3 x4 x5 s → AW ad E0 μX12_sheet (d + 2) Q 125 [(0, .ref (ad 187)), (1, .int x1), (2, .int x2), (3, .int x3), (5, .int x5), (6, .int (shS (shV x2 x3 x4 x5) s)), (7, .int (x4 + nI s * x5)), (8, .int (nI s))] [.int v, .int ((4 : Int32) * nI s + x1), .ref (ad 188)] m1 := fun v hv => by
        subst hv
        have e4 : (4 : Int32) * nI s + x1 = nI (4 * s + a) := by rw [l_mul 4 4 rfl, ea, nI_add]
        rw [e4]
        refine g_X12_sheet_125 (ne2 := 32) ly_188 ⟨nat_in (by omega) (by decide), ?_⟩
        rw [e4, nI_clamp (by omega), u_eq, nI_1, step_s]
        exact ⟨nat_in (by omega) (by decide), ih (s + 1) _ (by omega) (w1.n rfl) (f1.i rfl) (fun b k h1 h2 => (u_ne (fun q => h2 q.1)).trans (hb b k h1 h2)) (shM_s (c := 188) hM ha44)⟩
      have L87 : ∀ s0, s0 = shE x2 (x4 + nI s * x5) → AW ad E0 μX12_sheet (d + 2) Q 87 [(0, .ref (ad 187)), (1, .int x1), (2, .int x2), (3, .int x3), (5, .int x5), (6, .int (shS (shV x2 x3 x4 x5) s)), (7, .int (x4 + nI s * x5)), (8, .int (nI s))] [.int s0] m1 := fun s0 hs0 => by
        subst hs0
        refine g_X12_sheet_87 ⟨fun h3 => put _ ?_, fun h3 => ⟨fun cs => put _ ?_, fun cs => put _ ?_⟩⟩
        · unfold shV; rw [if_pos h3]
        · unfold shV; rw [if_neg h3, if_pos cs, cl7_m]
        · unfold shV; rw [if_neg h3, if_neg cs]
      refine g_X12_sheet_55 ⟨fun z => absurd (by rw [e33] at z; exact (nI_leI (by omega) (by omega)).mp z) (by omega), fun _ => ⟨fun c0 => ⟨fun c1 => L87 _ ?_, fun c1 => L87 _ ?_⟩, fun c0 => L87 _ ?_⟩⟩
      · unfold shE; rw [if_neg c0, if_neg c1]
      · unfold shE; rw [if_neg c0, if_pos c1]
      · unfold shE; rw [if_pos c0]
  have st : x4 = x4 + nI 0 * x5 := by rw [nI_0, Int32.zero_mul, Int32.add_zero]
  have hQ2 : ∀ b k, b ≠ 187 → b ≠ 188 → (uI m 187 17 0).1 b k = m.1 b k := fun b k h1 _ => u_ne (fun q => h1 q.1)
  refine v_X12_sheet ((e_isArt (d := d) ha0 ha4).to ?_)
  rintro _ m' ⟨eq, rfl⟩
  obtain rfl := eq.symm
  by_cases hk : 0 ≤ x1.toInt ∧ x1.toInt < a0
  · refine ⟨1, by rw [if_pos hk], fun z => absurd z (by decide), fun _ => (in_i (lo := 0) (hi := 3) rfl rfl).to ?_⟩
    rintro _ m' ⟨eq, rfl⟩
    obtain rfl := eq.symm
    by_cases h2 : (0 : Int32) ≤ x2 ∧ x2 ≤ 3
    · have k2a := y_lel (n := 0) rfl h2.1
      have k2b := y_ler (n := 3) rfl h2.2
      refine ⟨1, by rw [if_pos h2], fun z => absurd z (by decide), fun _ => ⟨fun c3 => ?_, fun c3 => bad (fun z => ?_)⟩⟩
      · have k3 := y_ler (n := 8) rfl c3
        have G : shG a0 x1 x2 x3 := ⟨hk, ⟨k2a, k2b⟩, k3⟩
        have go : (x2.toInt = 3 ∨ 0 ≤ x3.toInt) → AW ad E0 μX12_sheet (d + 2) Q 55 [(0, .ref (ad 187)), (1, .int x1), (2, .int x2), (3, .int x3), (5, .int x5), (6, .int (0 : Int32)), (7, .int x4), (8, .int (0 : Int32))] [] (uI m 187 17 0) := fun hok => by
          have := L G hok n 0 (uI m 187 17 0) (by omega) w0 f0 hQ2 shM_0
          rw [← st] at this
          exact this
        refine ⟨fun c4 => go (Or.inl (by have := y_lel (n := 3) rfl c4; omega)), fun c4 => ⟨fun c5 => go (Or.inr (y_lel (n := 0) rfl c5)), fun c5 => two G ?_ (y_nlel (n := 0) rfl c5)⟩⟩
        have := y_nlel (n := 3) rfl c4; omega
      · have := y_nler (n := 8) rfl c3; have := z.2.2; omega
    · refine ⟨0, by rw [if_neg h2], fun _ => bad (fun z => h2 ⟨(fa_le _ _).mpr ?_, (fa_le _ _).mpr ?_⟩), fun z => absurd rfl z⟩
      · have z0 : (0 : Int32).toInt = 0 := rfl
        have := z.2.1; omega
      · have z3 : (3 : Int32).toInt = 3 := rfl
        have := z.2.1; omega
  · exact ⟨0, by rw [if_neg hk], fun _ => bad (fun z => hk z.1), fun z => absurd rfl z⟩
end SHT
end
section
/-! WHAT STANDS BETWEEN TWO CALLS, AND THE CALLS THAT READ THE TEXT -/
def IL : List Nat := [0, 8, 21, 23, 25, 39, 41]
def RG (m : Wm) : Prop := (m.1 187 11).toInt = 0 ∨ 1 ≤ (m.1 187 10).toInt
def IV (m : Wm) : Prop := RG m ∧ TXI m ∧ m.1 3 3 = m.1 187 1 ∧ m.1 3 4 = m.1 187 0 ∧ m.1 0 15 = m.1 187 52
/-- what stands, and K besides -/
def InvK (K : Wm → Prop) (m : Wm) : Prop := WT m ∧ IV m ∧ K m
/-- the regions that K may speak of -/
def KL : List Nat := [1, 4, 6, 7, 13, 23, 24, 25, 29, 40, 41, 42, 43, 44, 45, 46, 47, 48, 49, 52, 53, 54, 55]
/-- calls that leave KL alone lead from K to K' -/
def KD (K K' : Wm → Prop) : Prop := ∀ {S1 S2 : List Nat} {m m1 m2 : Wm}, Fx (RS S1) m m1 → Fx (RS S2) m1 m2 → K m → S1.all (fun x => !(KL.elem x)) = true → S2.all (fun x => !(KL.elem x)) = true → K' m2
/-- calls that touch A in the class and B in the model alone lead from K to K' -/
def TR (A B : List Nat) (K K' : Wm → Prop) : Prop := ∀ {m m1 m2 : Wm}, Fx (RS A) m m1 → Fx (RS B) m1 m2 → K m → K' m2
theorem TR.use {A B S1 S2 : List Nat} {K K' : Wm → Prop} {m m1 m2 : Wm} (h : TR A B K K') (f1 : Fx (RS S1) m m1) (f2 : Fx (RS S2) m1 m2) (k : K m) (e1 : (S1.all fun x => A.elem x) = true) (e2 : (S2.all fun x => B.elem x) = true) : K' m2 := h (Fx.tr Fx.rf f1 (RS_sub e1)) (Fx.tr Fx.rf f2 (RS_sub e2)) k
theorem nRS {S : List Nat} {a k ρ : Nat} (h : S.elem ρ = false) (e : rg a k = ρ) : ¬ RS S a k := fun q => by unfold RS at q; rw [e, h] at q; cases q
theorem all_ne {S L : List Nat} {ρ : Nat} (e : S.all (fun x => !(L.elem x)) = true) (h : L.elem ρ = true) : S.elem ρ = false := by
  cases hs : S.elem ρ with
  | false => rfl
  | true =>
    have h1 := List.all_eq_true.mp e ρ (List.mem_of_elem_eq_true hs)
    rw [h] at h1
    exact absurd h1 (by decide)
section OPA
variable {ad : Nat → Nat} {d : Nat} {m m' : Wm} {S : List Nat} {K K' : Wm → Prop}
theorem RG.fx (h : RG m) (f : Fx (RS S) m m') (e : S.elem 25 = false) : RG m' := by
  unfold RG
  rw [f.at (a := 187) (k := 11) (nRS e rfl), f.at (a := 187) (k := 10) (nRS e rfl)]
  exact h
theorem TXI.fx (h : TXI m) (f : Fx (RS S) m m') (e : S.elem 0 = false) (e2 : S.elem 21 = false) : TXI m' := by
  unfold TXI
  rw [f.at (a := 1) (k := 1) (nRS e rfl), f.at (a := 187) (k := 14) (nRS e2 rfl)]
  refine ⟨h.1, fun k hk => ?_⟩
  rw [f.at (a := 2) (k := k) (nRS e rfl), f.at (a := 195) (k := k) (nRS e2 rfl)]
  exact h.2 k hk
theorem TXI.zero (h1 : (m.1 1 1).toInt = 0) (h2 : (m.1 187 14).toInt = 0) : TXI m := ⟨(fa_eq _ _).mpr (by omega), fun k hk => absurd hk (by omega)⟩
theorem IV.fx (h : IV m) (f : Fx (RS S) m m') (e : S.all (fun x => !(IL.elem x)) = true) : IV m' := by
  obtain ⟨h1, h2, h3, h4, h5⟩ := h
  refine ⟨h1.fx f (all_ne e rfl), h2.fx f (all_ne e rfl) (all_ne e rfl), ?_, ?_, ?_⟩
  · rw [f.at (a := 3) (k := 3) (nRS (all_ne e (ρ := 41) rfl) rfl), f.at (a := 187) (k := 1) (nRS (all_ne e (ρ := 23) rfl) rfl)]; exact h3
  · rw [f.at (a := 3) (k := 4) (nRS (all_ne e (ρ := 41) rfl) rfl), f.at (a := 187) (k := 0) (nRS (all_ne e (ρ := 23) rfl) rfl)]; exact h4
  · rw [f.at (a := 0) (k := 15) (nRS (all_ne e (ρ := 8) rfl) rfl), f.at (a := 187) (k := 52) (nRS (all_ne e (ρ := 39) rfl) rfl)]; exact h5
theorem IV.f2 {m1 m2 : Wm} {S1 S2 : List Nat} (h : IV m) (f1 : Fx (RS S1) m m1) (f2 : Fx (RS S2) m1 m2) (e1 : S1.all (fun x => !(IL.elem x)) = true) (e2 : S2.all (fun x => !(IL.elem x)) = true) : IV m2 := (h.fx f1 e1).fx f2 e2
/-- the same numbers, without the text and the games -/
theorem IV.sd {m1 m2 : Wm} {S1 S2 : List Nat} (h : IV m) (f1 : Fx (RS S1) m m1) (f2 : Fx (RS S2) m1 m2) (e1 : S1.all (fun x => !(([8, 23, 39, 41] : List Nat).elem x)) = true) (e2 : S2.all (fun x => !(([8, 23, 39, 41] : List Nat).elem x)) = true) : m2.1 3 3 = m2.1 187 1 ∧ m2.1 3 4 = m2.1 187 0 ∧ m2.1 0 15 = m2.1 187 52 := by
  obtain ⟨-, -, h3, h4, h5⟩ := h
  refine ⟨?_, ?_, ?_⟩
  · rw [f2.at (a := 3) (k := 3) (nRS (all_ne e2 (ρ := 41) rfl) rfl), f2.at (a := 187) (k := 1) (nRS (all_ne e2 (ρ := 23) rfl) rfl), f1.at (a := 3) (k := 3) (nRS (all_ne e1 (ρ := 41) rfl) rfl), f1.at (a := 187) (k := 1) (nRS (all_ne e1 (ρ := 23) rfl) rfl)]; exact h3
  · rw [f2.at (a := 3) (k := 4) (nRS (all_ne e2 (ρ := 41) rfl) rfl), f2.at (a := 187) (k := 0) (nRS (all_ne e2 (ρ := 23) rfl) rfl), f1.at (a := 3) (k := 4) (nRS (all_ne e1 (ρ := 41) rfl) rfl), f1.at (a := 187) (k := 0) (nRS (all_ne e1 (ρ := 23) rfl) rfl)]; exact h4
  · rw [f2.at (a := 0) (k := 15) (nRS (all_ne e2 (ρ := 8) rfl) rfl), f2.at (a := 187) (k := 52) (nRS (all_ne e2 (ρ := 39) rfl) rfl), f1.at (a := 0) (k := 15) (nRS (all_ne e1 (ρ := 8) rfl) rfl), f1.at (a := 187) (k := 52) (nRS (all_ne e1 (ρ := 39) rfl) rfl)]; exact h5
def Both (ad : Nat → Nat) (d : Nat) (μ μ' : MI) (as : List Value) (I J : Wm → Prop) : Prop := ∀ m, I m → Ct ad μ (d + 300) (.ref (ad 0) :: as) m (fun r m1 => ∃ v : Int32, r = some (.int v) ∧ Ct ad μ' (d + 300) (.ref (ad 187) :: as) m1 (fun r m2 => r = some (.int v) ∧ J m2))
def BothW (ad : Nat → Nat) (d : Nat) (μ μ' : MI) (as : List Value) (I J : Wm → Prop) : Prop := ∀ m, I m → Ct ad μ (d + 300) (.ref (ad 0) :: as) m (fun r m1 => (∃ v : Int32, r = some (.int v)) ∧ Ct ad μ' (d + 300) (.ref (ad 187) :: as) m1 (fun r m2 => (∃ w : Int32, r = some (.int w)) ∧ J m2))
theorem Both.w {μ μ' : MI} {as : List Value} {I J : Wm → Prop} (h : Both ad d μ μ' as I J) : BothW ad d μ μ' as I J := fun m hI => (h m hI).to (fun r m1 h => by
  obtain ⟨v, rfl, h2⟩ := h
  exact ⟨⟨v, rfl⟩, h2.to (fun r m2 h => ⟨⟨v, h.1⟩, h.2⟩)⟩)
theorem os_sign (hK : KD K K') (a : Int32) : Both ad d μX11_sign μX12_sign [.int a] (InvK K) (InvK K') := fun m I => by
  obtain ⟨w, ⟨h1, h2, h3⟩, k0⟩ := I
  refine (sign_both (d := d + 299) w h2).to ?_
  rintro r m1 ⟨v, rfl, w1, f1, k⟩
  refine ⟨v, rfl, k.to ?_⟩
  rintro r m2 ⟨rfl, w2, f2, T2⟩
  exact ⟨rfl, w2, ⟨(h1.fx f1 rfl).fx f2 rfl, T2, IV.sd ⟨h1, h2, h3⟩ f1 f2 rfl rfl⟩, hK f1 f2 k0 rfl rfl⟩
theorem e_endC {x : Int32} (w : WT m) : Ct ad μX11_end (d + 1) [.ref (ad 0), .int x] m (fun r m' => WT m' ∧ ((0 ≤ x.toInt ∧ x.toInt ≤ (m.1 1 1).toInt ∧ r = some (.int 1) ∧ m' = uI m 1 1 x) ∨ (¬ (0 ≤ x.toInt ∧ x.toInt ≤ (m.1 1 1).toInt) ∧ r = some (.int 0) ∧ m' = m))) := by
  have t := w.at (a := 1) (k := 1) rfl
  refine v_X11_end (v_X10_cut ⟨fun c => ⟨0, rfl, bz_0, w, Or.inr ⟨?_, rfl, rfl⟩⟩, fun c => ⟨fun c2 => ⟨1, rfl, bz_1, ?_, Or.inl ⟨?_, ?_, rfl, rfl⟩⟩, fun c2 => ⟨0, rfl, bz_0, w, Or.inr ⟨?_, rfl, rfl⟩⟩⟩⟩)
  · have := y_ltr (n := 0) rfl c; omega
  · exact w.t rfl (y_nltr (n := 0) rfl c) (by have := z_le c2; omega)
  · exact y_nltr (n := 0) rfl c
  · exact z_le c2
  · have := z_nle c2; omega
theorem e_endM {x : Int32} (w : WT m) : Ct ad μX12_end (d + 1) [.ref (ad 187), .int x] m (fun r m' => WT m' ∧ Fx (RS [20, 21]) m m' ∧ (∀ k, m'.1 195 k = m.1 195 k) ∧ ((0 ≤ x.toInt ∧ x.toInt ≤ (m.1 187 14).toInt ∧ r = some (.int 1) ∧ m'.1 187 14 = x) ∨ (¬ (0 ≤ x.toInt ∧ x.toInt ≤ (m.1 187 14).toInt) ∧ r = some (.int 0) ∧ m'.1 187 14 = m.1 187 14))) := by
  have t := w.at (a := 187) (k := 14) rfl
  have z0 : (0 : Int32).toInt = 0 := rfl
  refine v_X12_end ((in_i (lo := 0) (hi := m.1 187 14) rfl rfl).to ?_)
  rintro _ m' ⟨eq, rfl⟩
  obtain rfl := eq.symm
  by_cases hc : 0 ≤ x ∧ x ≤ m.1 187 14
  · have c1 := z_le hc.1
    have c2 := z_le hc.2
    exact ⟨1, by rw [if_pos hc], fun _ => ⟨(w.n rfl).t rfl (by omega) (by omega), ((Fx.rf (S := RS [20, 21])).i rfl).i rfl, fun _ => rfl, Or.inl ⟨by omega, c2, rfl, rfl⟩⟩, fun z => absurd z (by decide)⟩
  · refine ⟨0, by rw [if_neg hc], fun z => absurd rfl z, fun _ => ⟨w.n rfl, Fx.rf.i rfl, fun _ => rfl, Or.inr ⟨fun q => hc ⟨(fa_le _ _).mpr (by omega), (fa_le _ _).mpr q.2⟩, rfl, rfl⟩⟩⟩
theorem os_end (hK : KD K K') (a : Int32) : Both ad d μX11_end μX12_end [.int a] (InvK K) (InvK K') := fun m I => by
  obtain ⟨w, ⟨h1, h2, h3⟩, k0⟩ := I
  have t1 : (m.1 1 1).toInt = (m.1 187 14).toInt := congrArg _ h2.1
  refine (e_endC (d := d + 299) w).to ?_
  rintro r m1 ⟨w1, h⟩
  rcases h with ⟨a1, a2, rfl, e⟩ | ⟨a1, rfl, e⟩
  · subst e
    have f1 : Fx (RS [0]) m (uI m 1 1 a) := Fx.rf.i rfl
    refine ⟨1, rfl, (e_endM (d := d + 299) w1).to ?_⟩
    rintro r m2 ⟨w2, f2, g, b⟩
    have e14 : (uI m 1 1 a).1 187 14 = m.1 187 14 := rfl
    rw [e14] at b
    rcases b with ⟨b1, b2, rfl, b3⟩ | ⟨b1, -⟩
    · have e11 : m2.1 1 1 = a := f2.at (a := 1) (k := 1) (by decide)
      refine ⟨rfl, w2, ⟨(h1.fx f1 rfl).fx f2 rfl, ⟨e11.trans b3.symm, fun k hk => ?_⟩, IV.sd ⟨h1, h2, h3⟩ f1 f2 rfl rfl⟩, hK f1 f2 k0 rfl rfl⟩
      rw [e11] at hk
      rw [f2.at (a := 2) (k := k) (nRS (ρ := 0) rfl rfl), g k]
      exact h2.2 k (by omega)
    · omega
  · subst e
    refine ⟨0, rfl, (e_endM (d := d + 299) w1).to ?_⟩
    rintro r m2 ⟨w2, f2, g, b⟩
    rcases b with ⟨b1, b2, -⟩ | ⟨b1, rfl, b3⟩
    · omega
    · have e11 : m2.1 1 1 = m1.1 1 1 := f2.at (a := 1) (k := 1) (by decide)
      refine ⟨rfl, w2, ⟨h1.fx f2 rfl, ⟨by rw [e11, b3]; exact h2.1, fun k hk => ?_⟩, IV.sd ⟨h1, h2, h3⟩ (Fx.rf (S := RS [])) f2 rfl rfl⟩, hK (Fx.rf (S := RS [])) f2 k0 rfl rfl⟩
      rw [e11] at hk
      rw [f2.at (a := 2) (k := k) (nRS (ρ := 0) rfl rfl), g k]
      exact h2.2 k hk
/-- the model's league() of an empty text -/
theorem e_leagueM0 (w : WT m) (ht : m.1 187 14 = 0) : Ct ad μX12_league (d + 5) [.ref (ad 187)] m (fun r m' => WT m' ∧ Fx (RS [20, 21, 22]) m m' ∧ r = some (.int 0) ∧ m'.1 187 14 = 0) := by
  have w0 : WT (uI m 187 17 0) := w.n rfl
  refine v_X12_league (d := d + 4) ((begin_ok (na := 80) rfl).to ?_)
  rintro _ m1 ⟨rfl, e1⟩
  have e1' : m1 = bgM (uI m 187 17 0) 195 (nI 0) (nI 76) := by rw [e1]; show bgM _ _ (m.1 187 14) _ = _; rw [ht]; rfl
  subst e1'
  clear e1
  have f1 : Fx (RS [22]) (uI m 187 17 0) (bgM (uI m 187 17 0) 195 (nI 0) (nI 76)) := bg_fx
  have P1 : PS 195 0 76 0 ((uI m 187 17 0).1 195) 0 (-1) (bgM (uI m 187 17 0) 195 (nI 0) (nI 76)) := bg_ps (by decide) (by decide)
  have w1 := w0.fx f1
  have F1 : Fx (RS [20, 21, 22]) m (bgM (uI m 187 17 0) 195 (nI 0) (nI 76)) := ((Fx.rf (S := RS [20, 21, 22]) (m := m)).i (a := 187) (k := 17) (v := 0) rfl).tr f1 (RS_sub rfl)
  generalize bgM (uI m 187 17 0) 195 (nI 0) (nI 76) = mb at f1 P1 w1 F1 ⊢
  have h19 : (uI mb 187 14 0).1 187 19 = nI 0 := P1.2.1
  refine ⟨rfl, fun c => ?_, fun _ => ⟨w1.t rfl (by decide) (by decide), F1.i rfl, rfl, rfl⟩⟩
  rw [h19] at c
  exact absurd rfl c
theorem lst_fr {n st dg ln sd ar fr st' dg' ln' sd' ar' fr' : Nat} {wp wp' : Bool} {il il' : Nat → Bool} {sk sk' : Nat → Int32} {c : Int32} (h : lst c st dg ln sd ar fr wp il sk = some (st', dg', ln', sd', ar', fr', wp', il', sk')) (hf : wp = false → fr = n) : wp' = false → fr' = n := by
  unfold lst lsk at h
  repeat' split at h
  all_goals first
    | (cases h; exact hf)
    | (cases h; intro q; cases q)
    | cases h
theorem LO_fr {n : Nat} {tx : Nat → Int32} {big : Bool} {st' dg' ln' sd' ar' fr' : Nat} {wp' : Bool} {il' : Nat → Bool} {sk' : Nat → Int32} : ∀ (k p st dg ln sd ar fr : Nat) (wp : Bool) (il : Nat → Bool) (sk : Nat → Int32), (wp = false → fr = n) → LO tx big k p (st, dg, ln, sd, ar, fr, wp, il, sk) = .inr (st', dg', ln', sd', ar', fr', wp', il', sk') → wp' = false → fr' = n := by
  intro k
  induction k with
  | zero =>
    intro p st dg ln sd ar fr wp il sk hf h
    by_cases c : big = false ∧ lEnd st dg ar
    · rw [LO_e c] at h; cases h; exact hf
    · rw [LO_n c] at h; cases h
  | succ k ih =>
    intro p st dg ln sd ar fr wp il sk hf h
    cases hl : lst (tx p) st dg ln sd ar fr wp il sk with
    | none => rw [LO_f hl] at h; cases h
    | some L =>
      obtain ⟨a1, a2, a3, a4, a5, a6, a7, a8, a9⟩ := L
      rw [LO_s hl] at h
      exact ih _ _ _ _ _ _ _ _ _ _ (lst_fr hl hf) h
/-- from K to K' over a league that was taken -/
def LGH (K K' : Wm → Prop) : Prop := ∀ (m m1 m2 : Wm) (n st dg ln sd ar fr : Nat) (wp : Bool) (il : Nat → Bool) (sk : Nat → Int32), InvK K m → m.1 3 3 = nI n → n ≤ 8 → WT m1 → WT m2 → Fx (RS [0, 3, 4, 7, 8, 13, 41, 42, 44, 53]) m m1 → Fx (RS [20, 21, 22, 23, 24, 25, 27, 29, 39, 45, 46, 52]) m1 m2 → (wp = false → fr = n) → lcV st dg sd ar fr wp → lgC m False (st, dg, ln, sd, ar, fr, wp, il, sk) m1 → lgE m1 ln sd ar fr wp il sk m2 → m2.1 3 3 = nI sd → K' m2
set_option maxHeartbeats 1000000 in
theorem os_league (hK : KD K K') (hL0 : LGH K K') : Both ad d μX11_league μX12_league [] (InvK K) (InvK K') := fun m I => by
  have IK := I
  obtain ⟨w, I0, kK⟩ := I
  have I1 := I0
  obtain ⟨h1, h2, h3, h4, h5⟩ := I0
  obtain ⟨n, en, -, -, n8, -⟩ := w.nat (a := 3) (k := 3) rfl (by decide)
  obtain ⟨a0, ea, -, a1, a4, -⟩ := w.nat (a := 187) (k := 0) rfl (by decide)
  obtain ⟨t, et, -, -, t80, -⟩ := w.nat (a := 1) (k := 1) rfl (by decide)
  have ht14 : m.1 187 14 = nI t := h2.1.symm.trans et
  have hsd : m.1 187 1 = nI n := h3.symm.trans en
  have har : m.1 3 4 = nI a0 := h4.trans ea
  by_cases ht0 : t = 0
  · subst ht0
    refine v_X11_league (d := d + 299) ⟨fun c => absurd et c, fun _ => ⟨0, rfl, (e_leagueM0 (d := d + 295) w ht14).to ?_⟩⟩
    rintro r m2 ⟨w2, f2, rfl, k14⟩
    have e11 : m2.1 1 1 = nI 0 := (f2.at (a := 1) (k := 1) (by decide)).trans et
    exact ⟨rfl, w2, ⟨h1.fx f2 rfl, TXI.zero (by rw [e11]; rfl) (by rw [k14]; rfl), IV.sd I1 (Fx.rf (S := RS [])) f2 rfl rfl⟩, hK (Fx.rf (S := RS [])) f2 kK rfl rfl⟩
  · refine (e_leagueC (d := d + 295) (HZ := False) (il0 := fun _ => false) (sk0 := m.1 22) w en (by omega) har (by omega) (by omega) et (by omega) ht0 (fun _ _ => rfl) (fun z => z.elim)).to ?_
    rintro r m1 ⟨w1, f1, g2, hq, hL⟩
    have g195 : m1.1 195 = m.1 195 := funext fun k => f1.at (nRS (ρ := 21) rfl rfl)
    have eO : LO (m.1 2) (decide (76 < t)) (minT t 76) 0 (0, 0, 0, n, a0, n, false, (fun _ => false), m.1 22) = LO (m1.1 195) (decide (76 < t)) (minT t 76) 0 (0, 0, 0, n, a0, n, false, (fun _ => false), m.1 22) := by
      rw [g195]
      refine LO_ch (fun j hj => h2.2 j ?_)
      have : minT t 76 ≤ t := by unfold minT; split <;> omega
      rw [et, nI_toInt (by omega)]
      omega
    rw [eO] at hq hL
    have k1 : m1.1 187 1 = nI n := (f1.at (a := 187) (k := 1) (nRS (ρ := 23) rfl rfl)).trans hsd
    have k0 : m1.1 187 0 = nI a0 := (f1.at (a := 187) (k := 0) (nRS (ρ := 23) rfl rfl)).trans ea
    have k14 : m1.1 187 14 = nI t := (f1.at (a := 187) (k := 14) (nRS (ρ := 21) rfl rfl)).trans ht14
    have hM := e_leagueM (ad := ad) (d := d + 295) w1 k1 (by omega) k0 (by omega) (by omega) k14 ht0 (by omega) (fun _ => false) (m.1 22)
    have hFr : ∀ st dg ln sd ar fr wp il sk, LO (m1.1 195) (decide (76 < t)) (minT t 76) 0 (0, 0, 0, n, a0, n, false, (fun _ => false), m.1 22) = .inr (st, dg, ln, sd, ar, fr, wp, il, sk) → wp = false → fr = n := fun _ _ _ _ _ _ _ _ _ h => LO_fr (n := n) _ _ _ _ _ _ _ _ _ _ _ (fun _ => rfl) h
    generalize LO (m1.1 195) (decide (76 < t)) (minT t 76) 0 (0, 0, 0, n, a0, n, false, (fun _ => false), m.1 22) = O at hq hL hM hFr
    cases O with
    | inl q =>
      obtain ⟨rfl, z11, F1⟩ := hq q rfl
      refine ⟨_, rfl, hM.to ?_⟩
      rintro r m2 ⟨⟨w2, f2, -, z14, -⟩, hq2, -⟩
      obtain ⟨rfl, F2⟩ := hq2 q rfl
      have e11 : m2.1 1 1 = 0 := (f2.at (a := 1) (k := 1) (nRS (ρ := 0) rfl rfl)).trans z11
      exact ⟨rfl, w2, ⟨(h1.fx F1 rfl).fx F2 rfl, TXI.zero (by rw [e11]; rfl) z14, IV.sd I1 F1 F2 rfl rfl⟩, hK F1 F2 kK rfl rfl⟩
    | inr L =>
      obtain ⟨st, dg, ln, sd, ar, fr, wp, il, sk⟩ := L
      have hL1 := hL st dg ln sd ar fr wp il sk rfl
      have hF := hFr st dg ln sd ar fr wp il sk rfl
      have hL2 := hL1.2.2
      obtain ⟨rfl, V, c1, c2, c3, c4, c5, c6, -⟩ := hL1
      refine ⟨_, rfl, hM.to ?_⟩
      rintro r m2 ⟨⟨w2, f2, -, z14, -⟩, -, hE⟩
      have hE1 := (hE st dg ln sd ar fr wp il sk rfl).2
      obtain ⟨rfl, b1, b2, b3, b4, b5, -⟩ := hE st dg ln sd ar fr wp il sk rfl
      have e11 : m2.1 1 1 = 0 := (f2.at (a := 1) (k := 1) (nRS (ρ := 0) rfl rfl)).trans c3
      have e33 : m2.1 3 3 = nI sd := (f2.at (a := 3) (k := 3) (nRS (ρ := 41) rfl rfl)).trans c1
      have e34 : m2.1 3 4 = nI ar := (f2.at (a := 3) (k := 4) (nRS (ρ := 41) rfl rfl)).trans c2
      have e15 : m2.1 0 15 = m1.1 0 15 := f2.at (a := 0) (k := 15) (nRS (ρ := 8) rfl rfl)
      have q10 : m1.1 187 10 = m.1 187 10 := f1.at (a := 187) (k := 10) (nRS (ρ := 25) rfl rfl)
      have q11 : m1.1 187 11 = m.1 187 11 := f1.at (a := 187) (k := 11) (nRS (ρ := 25) rfl rfl)
      have q52 : m1.1 187 52 = m.1 187 52 := f1.at (a := 187) (k := 52) (nRS (ρ := 39) rfl rfl)
      refine ⟨rfl, w2, ⟨?_, TXI.zero (by rw [e11]; rfl) z14, e33.trans b1.symm, e34.trans b2.symm, ?_⟩, hL0 m m1 m2 n st dg ln sd ar fr wp il sk IK en (by omega) w1 w2 f1 f2 hF V hL2 hE1 e33⟩
      · unfold RG
        cases wp with
        | true => left; have b5' : m2.1 187 10 = 0 ∧ m2.1 187 11 = 0 ∧ _ := b5; rw [b5'.2.1]; rfl
        | false => have b5' : m2.1 187 10 = m1.1 187 10 ∧ m2.1 187 11 = m1.1 187 11 ∧ _ := b5; rw [b5'.1, b5'.2.1, q10, q11]; exact h1
      · cases wp with
        | true =>
          have b5' : _ ∧ _ ∧ _ ∧ m2.1 187 52 = 0 := b5
          have c6' : _ ∧ m1.1 0 15 = 0 ∧ _ := c6
          rw [e15, c6'.2.1, b5'.2.2.2]
        | false =>
          have b5' : _ ∧ _ ∧ _ ∧ m2.1 187 52 = m1.1 187 52 := b5
          have c6' : _ ∧ m1.1 0 15 = m.1 0 15 ∧ _ := c6
          rw [e15, c6'.2.1, b5'.2.2.2, q52]
          exact h5
end OPA
end
section
/-! A READER THAT GOES SIGN BY SIGN -/
def MO {σ : Type} (stp : Int32 → σ → Option σ) (ok : σ → Bool) (tx : Nat → Int32) (big : Bool) : Nat → Nat → σ → Nat ⊕ σ
  | 0, p, S => if big = false ∧ ok S = true then .inr S else .inl p
  | k + 1, p, S => match stp (tx p) S with
    | none => .inl p
    | some S' => MO stp ok tx big k (p + 1) S'
section MOS
variable {σ : Type} {stp : Int32 → σ → Option σ} {ok : σ → Bool} {tx : Nat → Int32} {big : Bool} {k p e : Nat} {S S' : σ}
theorem MO_s (h : stp (tx p) S = some S') : MO stp ok tx big (k + 1) p S = MO stp ok tx big k (p + 1) S' := by
  show (match stp (tx p) S with | none => Sum.inl p | some S' => MO stp ok tx big k (p + 1) S') = _
  rw [h]
theorem MO_f (h : stp (tx p) S = none) : MO stp ok tx big (k + 1) p S = .inl p := by
  show (match stp (tx p) S with | none => Sum.inl p | some S' => MO stp ok tx big k (p + 1) S') = _
  rw [h]
theorem MO_e (h : big = false ∧ ok S = true) : MO stp ok tx big 0 p S = .inr S := if_pos h
theorem MO_n (h : ¬ (big = false ∧ ok S = true)) : MO stp ok tx big 0 p S = .inl p := if_neg h
theorem MO_ss (hp : p < e) (h : stp (tx p) S = some S') : MO stp ok tx big (e - p) p S = MO stp ok tx big (e - (p + 1)) (p + 1) S' := by
  rw [ep_s hp]; exact MO_s h
theorem MO_ff (h : p < e → stp (tx p) S = none) (h2 : ¬ p < e → ok S = false) : MO stp ok tx big (e - p) p S = .inl p := by
  by_cases hp : p < e
  · rw [ep_s hp]; exact MO_f (h hp)
  · rw [show e - p = 0 by omega]
    exact MO_n (fun q => by rw [h2 hp] at q; exact absurd q.2 (by decide))
theorem MO_ch {tb : Nat → Int32} (hs : ∀ c b S, CH c b → stp c S = stp b S) : ∀ {k p : Nat} {S : σ}, (∀ j, j < p + k → CH (tx j) (tb j)) → MO stp ok tx big k p S = MO stp ok tb big k p S := by
  intro k
  induction k with
  | zero => intro p S _; rfl
  | succ k ih =>
    intro p S h
    have e := hs _ _ S (h p (by omega))
    cases hl : stp (tb p) S with
    | none => rw [MO_f hl, MO_f (e.trans hl)]
    | some S' => rw [MO_s hl, MO_s (e.trans hl)]; exact ih (fun j hj => h j (by omega))
end MOS
/-- what a sign is not, if it is none below 128 -/
theorem CH.big {c b t : Int32} (a1 : b.toInt < 0) (a2 : 128 ≤ c.toInt) (h0 : 0 ≤ t.toInt) (h1 : t.toInt ≤ 127) : ¬ c = t ∧ ¬ b = t := by
  constructor
  · rintro rfl; omega
  · rintro rfl; omega
theorem CH.rng {c b : Int32} (a1 : b.toInt < 0) (a2 : 128 ≤ c.toInt) (a3 : c.toInt ≤ 255) : 80 ≤ (c - 48).toInt ∧ ((b - 48).toInt < 0 ∨ 80 ≤ (b - 48).toInt) := by
  have r := fb_rng b
  have z48 : (48 : Int32).toInt = 48 := rfl
  have e1 : (c - 48).toInt = c.toInt - 48 := ti_sub (by omega)
  have e2 : (b - 48).toInt = b.toInt - 48 ∨ (b - 48).toInt = b.toInt - 48 + 4294967296 := by
    rw [Int32.toInt_sub, z48, Int.bmod_def]
    by_cases hb : -2147483600 ≤ b.toInt
    · left; omega
    · right; omega
  omega
/-! THE PLAN'S TEXT, SIGN BY SIGN: what stands (0 a side is wanted, 1 it is there, 2 thrown, 3 the other one is wanted, 4 it is there, 5 thrown), rounds begun, games, digits used, who, against whom, thrown, where the rounds begin -/
abbrev PlS : Type := Nat × Nat × Nat × Int32 × (Nat → Int32) × (Nat → Int32) × (Nat → Int32) × (Nat → Nat)
def updN (f : Nat → Nat) (i v : Nat) : Nat → Nat := fun k => if k = i then v else f k
abbrev pSd (n : Nat) (us c : Int32) : Prop := (0 ≤ (c - 48).toInt ∧ (c - 48).toInt < n) ∧ ¬ ((us >>> ((c - 48) &&& 31)) &&& 1) = 1
def pBr (c : Int32) (rd gm : Nat) (us : Int32) (fi se th : Nat → Int32) (sn : Nat → Nat) : Option PlS :=
  if c = 59 then some (0, rd + 1, gm, 0, fi, se, th, updN sn rd gm) else if c = 44 then some (0, rd, gm, us, fi, se, th, sn) else none
def pst (n : Nat) (c : Int32) : PlS → Option PlS
  | (st, rd, gm, us, fi, se, th, sn) =>
    if st = 0 then (if rd ≤ 12 ∧ pSd n us c then some (1, rd, gm + 1, us ||| ((1 : Int32) <<< ((c - 48) &&& 31)), upd fi gm (c - 48), upd se gm (c - 48), upd th gm 0, sn) else none)
    else if st = 1 then (if c = 33 then some (2, rd, gm, us, fi, se, upd th (gm - 1) (th (gm - 1) ||| 1), sn) else if c = 45 then some (3, rd, gm, us, fi, se, th, sn) else none)
    else if st = 2 then (if c = 45 then some (3, rd, gm, us, fi, se, th, sn) else none)
    else if st = 3 then (if rd ≤ 12 ∧ pSd n us c then some (4, rd, gm, us ||| ((1 : Int32) <<< ((c - 48) &&& 31)), fi, upd se (gm - 1) (c - 48), th, sn) else none)
    else if st = 4 then (if c = 33 then some (5, rd, gm, us, fi, se, upd th (gm - 1) (th (gm - 1) ||| 2), sn) else pBr c rd gm us fi se th sn)
    else pBr c rd gm us fi se th sn
def pok : PlS → Bool
  | (st, _) => decide (st = 4 ∨ st = 5)
section PST
variable {n rd gm : Nat} {us c b : Int32} {fi se th : Nat → Int32} {sn : Nat → Nat}
theorem pst_ch (hn : n ≤ 8) (S : PlS) (h : CH c b) : pst n c S = pst n b S := by
  rcases h with ⟨-, -, rfl⟩ | ⟨a1, a2, a3⟩
  · rfl
  · obtain ⟨st, rd, gm, us, fi, se, th, sn⟩ := S
    obtain ⟨c33, b33⟩ := CH.big (t := 33) a1 a2 (by decide) (by decide)
    obtain ⟨c45, b45⟩ := CH.big (t := 45) a1 a2 (by decide) (by decide)
    obtain ⟨c59, b59⟩ := CH.big (t := 59) a1 a2 (by decide) (by decide)
    obtain ⟨c44, b44⟩ := CH.big (t := 44) a1 a2 (by decide) (by decide)
    obtain ⟨r1, r2⟩ := CH.rng a1 a2 a3
    have q1 : ¬ (rd ≤ 12 ∧ pSd n us c) := fun q => by have := q.2.1.2; omega
    have q2 : ¬ (rd ≤ 12 ∧ pSd n us b) := fun q => by have := q.2.1; omega
    unfold pst pBr
    simp only [c33, b33, c45, b45, c59, b59, c44, b44, if_false, if_neg q1, if_neg q2]
theorem pst_0 (h : rd ≤ 12) (hs : pSd n us c) : pst n c (0, rd, gm, us, fi, se, th, sn) = some (1, rd, gm + 1, us ||| ((1 : Int32) <<< ((c - 48) &&& 31)), upd fi gm (c - 48), upd se gm (c - 48), upd th gm 0, sn) := by
  unfold pst
  dsimp only
  rw [if_pos rfl, if_pos ⟨h, hs⟩]
theorem pst_0n (h : ¬ (rd ≤ 12 ∧ pSd n us c)) : pst n c (0, rd, gm, us, fi, se, th, sn) = none := by
  unfold pst
  dsimp only
  rw [if_pos rfl, if_neg h]
theorem pst_1t : pst n 33 (1, rd, gm, us, fi, se, th, sn) = some (2, rd, gm, us, fi, se, upd th (gm - 1) (th (gm - 1) ||| 1), sn) := by
  unfold pst
  dsimp only
  rw [if_neg (by decide), if_pos rfl, if_pos rfl]
theorem pst_1d : pst n 45 (1, rd, gm, us, fi, se, th, sn) = some (3, rd, gm, us, fi, se, th, sn) := by
  unfold pst
  dsimp only
  rw [if_neg (by decide), if_pos rfl, if_neg (by decide), if_pos rfl]
theorem pst_1n (h1 : c ≠ 33) (h2 : c ≠ 45) : pst n c (1, rd, gm, us, fi, se, th, sn) = none := by
  unfold pst
  dsimp only
  rw [if_neg (by decide), if_pos rfl, if_neg h1, if_neg h2]
theorem pst_2d : pst n 45 (2, rd, gm, us, fi, se, th, sn) = some (3, rd, gm, us, fi, se, th, sn) := by
  unfold pst
  dsimp only
  rw [if_neg (by decide), if_neg (by decide), if_pos rfl, if_pos rfl]
theorem pst_2n (h2 : c ≠ 45) : pst n c (2, rd, gm, us, fi, se, th, sn) = none := by
  unfold pst
  dsimp only
  rw [if_neg (by decide), if_neg (by decide), if_pos rfl, if_neg h2]
theorem pst_3 (h : rd ≤ 12) (hs : pSd n us c) : pst n c (3, rd, gm, us, fi, se, th, sn) = some (4, rd, gm, us ||| ((1 : Int32) <<< ((c - 48) &&& 31)), fi, upd se (gm - 1) (c - 48), th, sn) := by
  unfold pst
  dsimp only
  rw [if_neg (by decide), if_neg (by decide), if_neg (by decide), if_pos rfl, if_pos ⟨h, hs⟩]
theorem pst_3n (h : ¬ (rd ≤ 12 ∧ pSd n us c)) : pst n c (3, rd, gm, us, fi, se, th, sn) = none := by
  unfold pst
  dsimp only
  rw [if_neg (by decide), if_neg (by decide), if_neg (by decide), if_pos rfl, if_neg h]
theorem pst_4t : pst n 33 (4, rd, gm, us, fi, se, th, sn) = some (5, rd, gm, us, fi, se, upd th (gm - 1) (th (gm - 1) ||| 2), sn) := by
  unfold pst
  dsimp only
  rw [if_neg (by decide), if_neg (by decide), if_neg (by decide), if_neg (by decide), if_pos rfl, if_pos rfl]
theorem pst_4b (h : c ≠ 33) : pst n c (4, rd, gm, us, fi, se, th, sn) = pBr c rd gm us fi se th sn := by
  unfold pst
  dsimp only
  rw [if_neg (by decide), if_neg (by decide), if_neg (by decide), if_neg (by decide), if_pos rfl, if_neg h]
theorem pst_5b : pst n c (5, rd, gm, us, fi, se, th, sn) = pBr c rd gm us fi se th sn := by
  unfold pst
  dsimp only
  rw [if_neg (by decide), if_neg (by decide), if_neg (by decide), if_neg (by decide), if_neg (by decide)]
theorem pBr_s : pBr 59 rd gm us fi se th sn = some (0, rd + 1, gm, 0, fi, se, th, updN sn rd gm) := if_pos rfl
theorem pBr_c : pBr 44 rd gm us fi se th sn = some (0, rd, gm, us, fi, se, th, sn) := by
  unfold pBr
  rw [if_neg (by decide), if_pos rfl]
theorem pBr_n (h1 : c ≠ 59) (h2 : c ≠ 44) : pBr c rd gm us fi se th sn = none := by
  unfold pBr
  rw [if_neg h1, if_neg h2]
end PST
/-! bits of the digits used -/
theorem bit_q (x : Int32) {k : Nat} (hk : k < 31) : ((x >>> (nI k &&& 31)) &&& 1) = 1 ↔ bt x k = true := by
  have b1 : ∀ i : Fin 32, bt 1 i.val = decide (i.val = 0) := by decide +kernel
  have e : (x >>> (nI k &&& 31)) &&& 1 = if bt x k = true then 1 else 0 := by
    refine b_ext (fun i hi => ?_)
    rw [b_and, b_sshr k (by omega) x hi, b1 ⟨i, hi⟩]
    by_cases h0 : i = 0
    · subst h0
      rw [if_pos (by omega)]
      by_cases hb : bt x k = true
      · rw [if_pos hb]
        show (bt x k && decide (0 = 0)) = _
        rw [hb]; rfl
      · rw [if_neg hb]
        show (bt x k && decide (0 = 0)) = _
        rw [Bool.eq_false_iff.mpr hb]; rfl
    · have hd : decide (i = 0) = false := decide_eq_false h0
      show (_ && decide (i = 0)) = _
      rw [hd, Bool.and_false]
      by_cases hb : bt x k = true
      · rw [if_pos hb]
        have := b1 ⟨i, hi⟩
        rw [this]; exact hd.symm
      · rw [if_neg hb, b_0]
  rw [e]
  by_cases hb : bt x k = true
  · rw [if_pos hb]; exact ⟨fun _ => hb, fun _ => rfl⟩
  · rw [if_neg hb]; exact ⟨fun q => absurd q (by decide), fun q => absurd q hb⟩
theorem bt_1shl {j k : Nat} (hk : k < 31) (hj : j < 31) : bt ((1 : Int32) <<< (nI k &&& 31)) j = decide (j = k) := by
  have b1 : ∀ i : Fin 32, bt 1 i.val = decide (i.val = 0) := by decide +kernel
  rw [b_shl k (by omega) 1 (by omega)]
  by_cases h : k ≤ j
  · rw [b1 ⟨j - k, by omega⟩, decide_eq_true h, Bool.true_and]
    exact decide_eq_decide.mpr (by show j - k = 0 ↔ j = k; omega)
  · rw [decide_eq_false h, Bool.false_and]
    exact (decide_eq_false (by omega)).symm
/-- a digit that was used can't be used again -/
theorem used_ne {us a b : Int32} (ha : 0 ≤ a.toInt) (ha8 : a.toInt < 8) (hb : 0 ≤ b.toInt) (hb8 : b.toInt < 8) (h : ¬ (((us ||| ((1 : Int32) <<< (a &&& 31))) >>> (b &&& 31)) &&& 1) = 1) : a ≠ b := by
  rintro rfl
  obtain ⟨j, hj, rfl⟩ := zn_of ha
  rw [nI_toInt hj] at ha8
  refine h ((bit_q _ (by omega)).mpr ?_)
  rw [b_or, bt_1shl (by omega) (by omega)]
  simp
/-! ONE GAME, ONE ROUND, ALL OF THEM: the model's way is that of the signs -/
def GRel (n r g : Nat) (np fi se th : Nat → Int32) (sn : Nat → Nat) : Prop := ∀ j, j < g → np (4 * j) = fi j ∧ np (4 * j + 1) = se j ∧ np (4 * j + 2) = th j ∧ (0 ≤ (fi j).toInt ∧ (fi j).toInt < n) ∧ (0 ≤ (se j).toInt ∧ (se j).toInt < n) ∧ fi j ≠ se j ∧ (0 ≤ (th j).toInt ∧ (th j).toInt ≤ 3) ∧ ∃ ρ, ρ ≤ r ∧ np (4 * j + 3) = nI ρ ∧ sn ρ ≤ j ∧ (ρ < r → j < sn (ρ + 1))
def SRel (r g : Nat) (sn : Nat → Nat) : Prop := sn 0 = 0 ∧ (∀ ρ, ρ < r → sn ρ ≤ sn (ρ + 1)) ∧ sn r ≤ g
section PGM
variable {tx : Nat → Int32} {e n : Nat} {big : Bool} {O : Nat ⊕ PlS}
theorem sdF_e {used : Int32} {p : Nat} (hn : n ≤ 8) : sdF tx e n used (p, -1) = if p < e ∧ pSd n used (tx p) then (tx p - 48, (p + 1, -1)) else ((sdF tx e n used (p, -1)).1, (sdF tx e n used (p, -1)).2) := by
  by_cases h : p < e ∧ pSd n used (tx p)
  · rw [if_pos h]
    obtain ⟨h1, ⟨h2, h3⟩, h4⟩ := h
    have hd : digF tx e 0 9 (p, -1) = (tx p - 48, (p + 1, -1)) := by
      unfold digF
      rw [if_pos rfl, hr_in h1, if_pos ((dgi (lo := 0) (hi := 9) (l := 0) (u := 9) rfl rfl (by decide) (by decide)).mpr ⟨h2, by omega⟩)]
    unfold sdF
    rw [hd]
    dsimp only
    rw [if_pos rfl, if_pos ⟨(le1_iff (by omega)).mpr ⟨h2, h3⟩, h4⟩]
  · rw [if_neg h]
theorem sdF_n {used : Int32} {p : Nat} (hn : n ≤ 8) (hp : p < 1000) (h : ¬ (p < e ∧ pSd n used (tx p))) : (sdF tx e n used (p, -1)).2.2 = nI p := by
  unfold sdF
  by_cases hd : p < e ∧ 0 ≤ (tx p - 48).toInt ∧ (tx p - 48).toInt ≤ 9
  · have hdg : digF tx e 0 9 (p, -1) = (tx p - 48, (p + 1, -1)) := by
      unfold digF
      rw [if_pos rfl, hr_in hd.1, if_pos ((dgi (lo := 0) (hi := 9) (l := 0) (u := 9) rfl rfl (by decide) (by decide)).mpr hd.2)]
    rw [hdg]
    dsimp only
    rw [if_pos rfl, if_neg (fun q => h ⟨hd.1, (le1_iff (by omega)).mp q.1, q.2⟩)]
    show (fltF (nI (p + 1) - 1) (p + 1, -1)).2 = _
    unfold fltF
    rw [if_pos rfl, nI_pred]
  · have hdg : digF tx e 0 9 (p, -1) = (0, (p, nI p)) := by
      unfold digF
      rw [if_pos rfl, if_neg (fun q => hd (by
        by_cases hlt : p < e
        · rw [hr_in hlt] at q
          exact ⟨hlt, (dgi (lo := 0) (hi := 9) (l := 0) (u := 9) rfl rfl (by decide) (by decide)).mp q⟩
        · rw [hr_out hlt] at q
          exact absurd q.1 (by decide)))]
      unfold fltF
      rw [if_pos rfl]
    rw [hdg]
    dsimp only
    rw [if_neg (fun q => m1_ne p (by omega) q.symm)]
theorem sdF_d {used : Int32} {p : Nat} {w : Int32} (hw : ¬ w = -1) : (sdF tx e n used (p, w)).2 = (p, w) := by
  have hdg : digF tx e 0 9 (p, w) = (0, (p, w)) := by unfold digF; rw [if_neg hw]
  unfold sdF
  rw [hdg]
  dsimp only
  rw [if_neg hw]
theorem needF_e {c : Int32} {p : Nat} (hc : c ≠ -1) : needF tx e c (p, -1) = if p < e ∧ tx p = c then (p + 1, -1) else (p, nI p) := by
  unfold needF
  by_cases h : passF tx e c (p, -1) = true
  · rw [if_pos h, if_pos ((pass_iff hc).mp h)]
  · rw [if_neg h, if_neg (fun q => h ((pass_iff hc).mpr q))]
    unfold fltF
    rw [if_pos rfl]
theorem needF_d {c : Int32} {p : Nat} {w : Int32} (hw : ¬ w = -1) : needF tx e c (p, w) = (p, w) := by
  unfold needF
  rw [if_neg (pass_d hw)]
  exact flt_keep hw
/-- one game -/
theorem one_rel {used : Int32} {p rd gm : Nat} {fi se th : Nat → Int32} {sn : Nat → Nat} (hn : n ≤ 8) (he : e ≤ 80) (hp : p ≤ e) (hrd : rd ≤ 12) (hO : MO (pst n) pok tx big (e - p) p (0, rd, gm, used, fi, se, th, sn) = O) :
    ((oneG tx e n used (p, -1)).2.2.2 ≠ -1 → ∃ q, q ≤ e ∧ O = .inl q ∧ (oneG tx e n used (p, -1)).2.2.2 = nI q) ∧
    ((oneG tx e n used (p, -1)).2.2.2 = -1 → (oneG tx e n used (p, -1)).2.2.1 ≤ e ∧
      (∃ st, (st = 4 ∨ st = 5) ∧ (st = 4 → (oneG tx e n used (p, -1)).2.2.1 < e → tx (oneG tx e n used (p, -1)).2.2.1 ≠ 33) ∧
        MO (pst n) pok tx big (e - (oneG tx e n used (p, -1)).2.2.1) (oneG tx e n used (p, -1)).2.2.1 (st, rd, gm + 1, (oneG tx e n used (p, -1)).2.1, upd fi gm (oneG tx e n used (p, -1)).1.1, upd se gm (oneG tx e n used (p, -1)).1.2.2.1, upd th gm (b12 (oneG tx e n used (p, -1)).1.2.1 (oneG tx e n used (p, -1)).1.2.2.2), sn) = O) ∧
      (oneG tx e n used (p, -1)).1.1 ≠ (oneG tx e n used (p, -1)).1.2.2.1) := by
  by_cases h1 : p < e ∧ pSd n used (tx p)
  · -- the first side
    have eA : sdF tx e n used (p, -1) = (tx p - 48, (p + 1, -1)) := by rw [sdF_e hn, if_pos h1]
    rw [MO_ss h1.1 (pst_0 hrd h1.2)] at hO
    obtain ⟨q2, P1, th1, k2, hq2, hO2, hP1, hth1⟩ : ∃ q2 P1, ∃ th1 : Nat → Int32, ∃ k2 : Nat, (if passF tx e 33 (p + 1, -1) = true then p + 1 + 1 else p + 1) = q2 ∧ MO (pst n) pok tx big (e - q2) q2 (k2, rd, gm + 1, used ||| ((1 : Int32) <<< ((tx p - 48) &&& 31)), upd fi gm (tx p - 48), upd se gm (tx p - 48), th1, sn) = O ∧ passF tx e 33 (p + 1, -1) = P1 ∧ (th1 = upd th gm (if P1 = true then 1 else 0) ∧ q2 ≤ e ∧ (k2 = 2 ∨ (k2 = 1 ∧ (q2 < e → tx q2 ≠ 33)))) := by
      by_cases h33 : passF tx e 33 (p + 1, -1) = true
      · obtain ⟨g1, g2⟩ := (pass_iff (by decide)).mp h33
        rw [MO_ss g1 (by rw [g2]; exact pst_1t)] at hO
        refine ⟨p + 1 + 1, true, _, 2, if_pos h33, hO, h33, ?_, by omega, Or.inl rfl⟩
        rw [Nat.add_sub_cancel, fa_upd_twice]
        have e0 : upd th gm 0 gm ||| 1 = 1 := by
          have : upd th gm 0 gm = 0 := if_pos rfl
          rw [this]; rfl
        rw [e0]
        rfl
      · refine ⟨p + 1, false, _, 1, if_neg h33, hO, Bool.eq_false_iff.mpr h33, rfl, by omega, Or.inr ⟨rfl, fun q z => h33 ((pass_iff (by decide)).mpr ⟨q, z⟩)⟩⟩
    obtain ⟨hth1, hq2e, hk2⟩ := hth1
    by_cases h45 : q2 < e ∧ tx q2 = 45
    · have eN : needF tx e 45 (q2, -1) = (q2 + 1, -1) := by rw [needF_e (by decide), if_pos h45]
      have hO3 : MO (pst n) pok tx big (e - (q2 + 1)) (q2 + 1) (3, rd, gm + 1, used ||| ((1 : Int32) <<< ((tx p - 48) &&& 31)), upd fi gm (tx p - 48), upd se gm (tx p - 48), th1, sn) = O := by
        rcases hk2 with rfl | ⟨rfl, -⟩
        · rw [MO_ss h45.1 (by rw [h45.2]; exact pst_2d)] at hO2; exact hO2
        · rw [MO_ss h45.1 (by rw [h45.2]; exact pst_1d)] at hO2; exact hO2
      by_cases h2 : q2 + 1 < e ∧ pSd n (used ||| ((1 : Int32) <<< ((tx p - 48) &&& 31))) (tx (q2 + 1))
      · have eB : sdF tx e n (used ||| ((1 : Int32) <<< ((tx p - 48) &&& 31))) (q2 + 1, -1) = (tx (q2 + 1) - 48, (q2 + 1 + 1, -1)) := by rw [sdF_e hn, if_pos h2]
        rw [MO_ss h2.1 (pst_3 hrd h2.2)] at hO3
        rw [Nat.add_sub_cancel, fa_upd_twice] at hO3
        have hne : tx p - 48 ≠ tx (q2 + 1) - 48 := used_ne h1.2.1.1 (by have := h1.2.1.2; omega) h2.2.1.1 (by have := h2.2.1.2; omega) h2.2.2
        by_cases h33 : passF tx e 33 (q2 + 1 + 1, -1) = true
        · obtain ⟨g1, g2⟩ := (pass_iff (by decide)).mp h33
          rw [MO_ss g1 (by rw [g2]; exact pst_4t)] at hO3
          have hG : oneG tx e n used (p, -1) = ((tx p - 48, P1, tx (q2 + 1) - 48, true), (used ||| ((1 : Int32) <<< ((tx p - 48) &&& 31))) ||| ((1 : Int32) <<< ((tx (q2 + 1) - 48) &&& 31)), (q2 + 1 + 1 + 1, -1)) := by
            unfold oneG
            rw [eA]; dsimp only; rw [hP1]
            rw [hP1] at hq2
            rw [hq2, eN, eB]; dsimp only; rw [h33]; rfl
          rw [hG]
          refine ⟨fun q => absurd rfl q, fun _ => ⟨by show q2 + 1 + 1 + 1 ≤ e; omega, ⟨5, Or.inr rfl, fun q => absurd q (by decide), ?_⟩, hne⟩⟩
          rw [Nat.add_sub_cancel] at hO3
          have e1 : upd th1 gm (th1 gm ||| 2) = upd th gm (b12 P1 true) := by
            rw [hth1, fa_upd_twice]
            have : upd th gm (if P1 = true then (1 : Int32) else 0) gm = if P1 = true then 1 else 0 := if_pos rfl
            rw [this]
            cases P1 <;> rfl
          rw [e1] at hO3
          exact hO3
        · have hG : oneG tx e n used (p, -1) = ((tx p - 48, P1, tx (q2 + 1) - 48, false), (used ||| ((1 : Int32) <<< ((tx p - 48) &&& 31))) ||| ((1 : Int32) <<< ((tx (q2 + 1) - 48) &&& 31)), (q2 + 1 + 1, -1)) := by
            unfold oneG
            rw [eA]; dsimp only; rw [hP1]
            rw [hP1] at hq2
            rw [hq2, eN, eB]; dsimp only; rw [Bool.eq_false_iff.mpr h33]; rfl
          rw [hG]
          refine ⟨fun q => absurd rfl q, fun _ => ⟨by show q2 + 1 + 1 ≤ e; omega, ⟨4, Or.inl rfl, fun _ q z => h33 ((pass_iff (by decide)).mpr ⟨q, z⟩), ?_⟩, hne⟩⟩
          have e1 : th1 = upd th gm (b12 P1 false) := by
            rw [hth1]
            cases P1 <;> rfl
          rw [e1] at hO3
          exact hO3
      · -- no second side
        have hb := sdF_n (tx := tx) (e := e) (n := n) (p := q2 + 1) hn (by omega) h2
        have hw : (oneG tx e n used (p, -1)).2.2.2 = nI (q2 + 1) := by
          unfold oneG
          rw [eA]; dsimp only; rw [hP1]
          rw [hP1] at hq2
          rw [hq2, eN]; exact hb
        have hO4 : O = .inl (q2 + 1) := by
          rw [← hO3]
          exact MO_ff (fun q => pst_3n (fun z => h2 ⟨q, z.2⟩)) (fun _ => rfl)
        rw [hw]
        exact ⟨fun _ => ⟨q2 + 1, by omega, hO4, rfl⟩, fun q => absurd q.symm (m1_ne _ (by omega))⟩
    · -- no dash
      have eN : needF tx e 45 (q2, -1) = (q2, nI q2) := by rw [needF_e (by decide), if_neg h45]
      have hw1 : ¬ nI q2 = -1 := fun q => m1_ne q2 (by omega) q.symm
      have hw : (oneG tx e n used (p, -1)).2.2.2 = nI q2 := by
        unfold oneG
        rw [eA]; dsimp only; rw [hP1]
        rw [hP1] at hq2
        rw [hq2, eN, sdF_d hw1]
      have hO4 : O = .inl q2 := by
        rw [← hO2]
        rcases hk2 with rfl | ⟨rfl, h33⟩
        · exact MO_ff (fun q => pst_2n (fun z => h45 ⟨q, z⟩)) (fun _ => rfl)
        · exact MO_ff (fun q => pst_1n (h33 q) (fun z => h45 ⟨q, z⟩)) (fun _ => rfl)
      rw [hw]
      exact ⟨fun _ => ⟨q2, hq2e, hO4, rfl⟩, fun q => absurd q hw1⟩
  · -- no first side
    have hb := sdF_n (tx := tx) (e := e) (n := n) (used := used) hn (by omega : p < 1000) h1
    have hw1 : ¬ nI p = -1 := fun q => m1_ne p (by omega) q.symm
    have hw : (oneG tx e n used (p, -1)).2.2.2 = nI p := by
      unfold oneG
      dsimp only
      generalize sdF tx e n used (p, -1) = A at hb
      obtain ⟨a1, q1, u1⟩ := A
      dsimp only at hb ⊢
      subst hb
      rw [Bool.eq_false_iff.mpr (pass_d (tx := tx) (e := e) (c := 33) (p := q1) hw1)]
      rw [if_neg (by decide), needF_d hw1, sdF_d hw1]
    have hO4 : O = .inl p := by
      rw [← hO]
      exact MO_ff (fun q => pst_0n (fun z => h1 ⟨q, z.2⟩)) (fun _ => rfl)
    rw [hw]
    exact ⟨fun _ => ⟨p, hp, hO4, rfl⟩, fun q => absurd q hw1⟩
theorem gm_cons {r k g : Nat} {used : Int32} {np : Nat → Int32} {p : Nat} : gmF tx e n r (k + 1) used g np (p, -1) = if (oneG tx e n used (p, -1)).2.2.2 = -1 then
    (if passF tx e 44 (oneG tx e n used (p, -1)).2.2 = true then gmF tx e n r k (oneG tx e n used (p, -1)).2.1 (g + 1) (upG np g r (oneG tx e n used (p, -1)).1) ((oneG tx e n used (p, -1)).2.2.1 + 1, (oneG tx e n used (p, -1)).2.2.2) else (g + 1, upG np g r (oneG tx e n used (p, -1)).1, (oneG tx e n used (p, -1)).2.2))
    else (g, np, (oneG tx e n used (p, -1)).2.2) := if_pos rfl
theorem gm_dead {r k g : Nat} {used : Int32} {np : Nat → Int32} {p : Nat} {w : Int32} (hw : ¬ w = -1) : gmF tx e n r k used g np (p, w) = (g, np, (p, w)) := by
  cases k with
  | zero => rfl
  | succ k => exact if_neg hw
theorem b12_r (b c : Bool) : 0 ≤ (b12 b c).toInt ∧ (b12 b c).toInt ≤ 3 := by cases b <;> cases c <;> decide
theorem upd_e {f : Nat → Int32} {i : Nat} {v : Int32} : upd f i v i = v := if_pos rfl
theorem upd_n {f : Nat → Int32} {i j : Nat} {v : Int32} (h : j ≠ i) : upd f i v j = f j := if_neg h
theorem GRel.add {r g : Nat} {np fi se th : Nat → Int32} {sn : Nat → Nat} (h : GRel n r g np fi se th sn) (hs : sn r ≤ g) {G : Int32 × Bool × Int32 × Bool} (h1 : 0 ≤ G.1.toInt ∧ G.1.toInt < n) (h2 : 0 ≤ G.2.2.1.toInt ∧ G.2.2.1.toInt < n) (h3 : G.1 ≠ G.2.2.1) :
    GRel n r (g + 1) (upG np g r G) (upd fi g G.1) (upd se g G.2.2.1) (upd th g (b12 G.2.1 G.2.2.2)) sn := by
  intro j hj
  unfold upG
  by_cases hjg : j = g
  · subst hjg
    refine ⟨?_, ?_, ?_, ?_, ?_, ?_, ?_, r, Nat.le_refl _, ?_, hs, fun q => absurd q (Nat.lt_irrefl _)⟩
    · rw [upd_n (by omega), upd_n (by omega), upd_n (by omega), upd_e, upd_e]
    · rw [upd_n (by omega), upd_n (by omega), upd_e, upd_e]
    · rw [upd_n (by omega), upd_e, upd_e]
    · rw [upd_e]; exact h1
    · rw [upd_e]; exact h2
    · rw [upd_e, upd_e]; exact h3
    · rw [upd_e]; exact b12_r _ _
    · rw [upd_e]
  · obtain ⟨a1, a2, a3, a4, a5, a6, a7, ρ, b1, b2, b3, b4⟩ := h j (by omega)
    rw [upd_n hjg, upd_n hjg, upd_n hjg]
    refine ⟨?_, ?_, ?_, a4, a5, a6, a7, ρ, b1, ?_, b3, b4⟩
    · rw [upd_n (by omega), upd_n (by omega), upd_n (by omega), upd_n (by omega)]; exact a1
    · rw [upd_n (by omega), upd_n (by omega), upd_n (by omega), upd_n (by omega)]; exact a2
    · rw [upd_n (by omega), upd_n (by omega), upd_n (by omega), upd_n (by omega)]; exact a3
    · rw [upd_n (by omega), upd_n (by omega), upd_n (by omega), upd_n (by omega)]; exact b2
/-- one round -/
theorem gm_rel {r : Nat} {sn : Nat → Nat} (hn : n ≤ 8) (he : e ≤ 80) (hrd : r + 1 ≤ 12) : ∀ (k : Nat) (used : Int32) (g : Nat) (np : Nat → Int32) (p : Nat) (fi se th : Nat → Int32), e - p < k → p ≤ e → GRel n r g np fi se th sn → sn r ≤ g → MO (pst n) pok tx big (e - p) p (0, r + 1, g, used, fi, se, th, sn) = O →
    ((gmF tx e n r k used g np (p, -1)).2.2.2 ≠ -1 → ∃ q, q ≤ e ∧ O = .inl q ∧ (gmF tx e n r k used g np (p, -1)).2.2.2 = nI q) ∧
    ((gmF tx e n r k used g np (p, -1)).2.2.2 = -1 → (gmF tx e n r k used g np (p, -1)).2.2.1 ≤ e ∧ g < (gmF tx e n r k used g np (p, -1)).1 ∧
      ∃ st us fi' se' th', (st = 4 ∨ st = 5) ∧ (st = 4 → (gmF tx e n r k used g np (p, -1)).2.2.1 < e → tx (gmF tx e n r k used g np (p, -1)).2.2.1 ≠ 33) ∧ ((gmF tx e n r k used g np (p, -1)).2.2.1 < e → tx (gmF tx e n r k used g np (p, -1)).2.2.1 ≠ 44) ∧
        MO (pst n) pok tx big (e - (gmF tx e n r k used g np (p, -1)).2.2.1) (gmF tx e n r k used g np (p, -1)).2.2.1 (st, r + 1, (gmF tx e n r k used g np (p, -1)).1, us, fi', se', th', sn) = O ∧
        GRel n r (gmF tx e n r k used g np (p, -1)).1 (gmF tx e n r k used g np (p, -1)).2.1 fi' se' th' sn) := by
  intro k
  induction k with
  | zero => intros; omega
  | succ k ih =>
    intro used g np p fi se th hk hp hG hs hO
    have h2 := oneG_2 (tx := tx) (e := e) hn (used := used) (s := (p, -1)) (by show p ≤ 80; omega)
    obtain ⟨r1, r2⟩ := one_rel hn he hp hrd hO
    rw [gm_cons]
    generalize oneG tx e n used (p, -1) = R at h2 r1 r2 ⊢
    obtain ⟨G, u2, q5, u4⟩ := R
    dsimp only at h2 r1 r2 ⊢
    by_cases hu : u4 = -1
    · subst hu
      rw [if_pos rfl]
      obtain ⟨-, g1, g2, gl⟩ := h2 rfl
      obtain ⟨k1, ⟨st, k2, k3, k4⟩, k5⟩ := r2 rfl
      have hG' := hG.add hs g1 g2 k5
      by_cases h44 : passF tx e 44 (q5, -1) = true
      · rw [if_pos h44]
        obtain ⟨c1, c2⟩ := (pass_iff (by decide)).mp h44
        have hst : pst n (tx q5) (st, r + 1, g + 1, u2, upd fi g G.1, upd se g G.2.2.1, upd th g (b12 G.2.1 G.2.2.2), sn) = some (0, r + 1, g + 1, u2, upd fi g G.1, upd se g G.2.2.1, upd th g (b12 G.2.1 G.2.2.2), sn) := by
          rw [c2]
          rcases k2 with rfl | rfl
          · rw [pst_4b (by decide)]; exact pBr_c
          · rw [pst_5b]; exact pBr_c
        rw [MO_ss c1 hst] at k4
        have := ih u2 (g + 1) _ (q5 + 1) _ _ _ (by omega) (by omega) hG' (by omega) k4
        refine ⟨this.1, fun q => ?_⟩
        obtain ⟨a1, a2, a3⟩ := this.2 q
        exact ⟨a1, by omega, a3⟩
      · rw [if_neg h44]
        refine ⟨fun q => absurd rfl q, fun _ => ⟨k1, by show g < g + 1; omega, st, u2, _, _, _, k2, k3, fun q z => h44 ((pass_iff (by decide)).mpr ⟨q, z⟩), k4, hG'⟩⟩
    · rw [if_neg hu]
      exact ⟨r1, fun q => absurd q hu⟩
theorem rd_cons {r k g : Nat} {np : Nat → Int32} {p : Nat} : rdF tx e n (k + 1) r g np (p, -1) = (if passF tx e 59 (gmF tx e n r 81 0 g np (if r = 12 then fltF (nI p) (p, -1) else (p, -1))).2.2 = true then rdF tx e n k (r + 1) (gmF tx e n r 81 0 g np (if r = 12 then fltF (nI p) (p, -1) else (p, -1))).1 (gmF tx e n r 81 0 g np (if r = 12 then fltF (nI p) (p, -1) else (p, -1))).2.1 ((gmF tx e n r 81 0 g np (if r = 12 then fltF (nI p) (p, -1) else (p, -1))).2.2.1 + 1, (gmF tx e n r 81 0 g np (if r = 12 then fltF (nI p) (p, -1) else (p, -1))).2.2.2) else (r + 1, (gmF tx e n r 81 0 g np (if r = 12 then fltF (nI p) (p, -1) else (p, -1))).1, (gmF tx e n r 81 0 g np (if r = 12 then fltF (nI p) (p, -1) else (p, -1))).2.1, (gmF tx e n r 81 0 g np (if r = 12 then fltF (nI p) (p, -1) else (p, -1))).2.2)) := if_pos rfl
theorem updN_e {f : Nat → Nat} {i v : Nat} : updN f i v i = v := if_pos rfl
theorem updN_n {f : Nat → Nat} {i j v : Nat} (h : j ≠ i) : updN f i v j = f j := if_neg h
/-- all rounds -/
theorem rd_rel (hn : n ≤ 8) (he : e ≤ 80) : ∀ (k r g : Nat) (np : Nat → Int32) (p : Nat) (fi se th : Nat → Int32) (sn : Nat → Nat), 13 ≤ k + r → r ≤ 12 → p ≤ e → GRel n r g np fi se th sn → SRel r g sn → MO (pst n) pok tx big (e - p) p (0, r + 1, g, 0, fi, se, th, sn) = O →
    ((rdF tx e n k r g np (p, -1)).2.2.2.2 ≠ -1 → ∃ q, q ≤ e ∧ O = .inl q ∧ (rdF tx e n k r g np (p, -1)).2.2.2.2 = nI q) ∧
    ((rdF tx e n k r g np (p, -1)).2.2.2.2 = -1 → (rdF tx e n k r g np (p, -1)).2.2.2.1 ≤ e ∧ 1 ≤ (rdF tx e n k r g np (p, -1)).1 ∧ (rdF tx e n k r g np (p, -1)).1 ≤ 12 ∧ g < (rdF tx e n k r g np (p, -1)).2.1 ∧
      ∃ st us fi' se' th' sn', (st = 4 ∨ st = 5) ∧ (st = 4 → (rdF tx e n k r g np (p, -1)).2.2.2.1 < e → tx (rdF tx e n k r g np (p, -1)).2.2.2.1 ≠ 33) ∧ ((rdF tx e n k r g np (p, -1)).2.2.2.1 < e → tx (rdF tx e n k r g np (p, -1)).2.2.2.1 ≠ 44 ∧ tx (rdF tx e n k r g np (p, -1)).2.2.2.1 ≠ 59) ∧
        MO (pst n) pok tx big (e - (rdF tx e n k r g np (p, -1)).2.2.2.1) (rdF tx e n k r g np (p, -1)).2.2.2.1 (st, (rdF tx e n k r g np (p, -1)).1, (rdF tx e n k r g np (p, -1)).2.1, us, fi', se', th', sn') = O ∧
        GRel n ((rdF tx e n k r g np (p, -1)).1 - 1) (rdF tx e n k r g np (p, -1)).2.1 (rdF tx e n k r g np (p, -1)).2.2.1 fi' se' th' sn' ∧ SRel ((rdF tx e n k r g np (p, -1)).1 - 1) (rdF tx e n k r g np (p, -1)).2.1 sn') := by
  intro k
  induction k with
  | zero => intros; omega
  | succ k ih =>
    intro r g np p fi se th sn hk hr hp hG hS hO
    rw [rd_cons]
    by_cases h12 : r = 12
    · have hw1 : ¬ nI p = -1 := fun q => m1_ne p (by omega) q.symm
      have e1 : (if r = 12 then fltF (nI p) (p, -1) else (p, -1)) = (p, nI p) := by
        rw [if_pos h12]
        show (if (-1 : Int32) = -1 then (p, nI p) else (p, -1)) = _
        rw [if_pos rfl]
      rw [e1, gm_dead hw1]
      dsimp only
      rw [if_neg (pass_d hw1)]
      have hO4 : O = .inl p := by
        rw [← hO]
        exact MO_ff (fun q => pst_0n (fun z => by omega)) (fun _ => rfl)
      exact ⟨fun _ => ⟨p, hp, hO4, rfl⟩, fun q => absurd q hw1⟩
    · have e1 : (if r = 12 then fltF (nI p) (p, -1) else (p, -1)) = (p, -1) := if_neg h12
      rw [e1]
      obtain ⟨r1, r2⟩ := gm_rel hn he (by omega : r + 1 ≤ 12) 81 0 g np p fi se th (by omega) hp hG hS.2.2 hO
      generalize gmF tx e n r 81 0 g np (p, -1) = R at r1 r2 ⊢
      obtain ⟨g', np', q, w⟩ := R
      dsimp only at r1 r2 ⊢
      by_cases hw : w = -1
      · subst hw
        obtain ⟨k1, k2, st, us, fi', se', th', k3, k4, k5, k6, k7⟩ := r2 rfl
        by_cases h59 : passF tx e 59 (q, -1) = true
        · rw [if_pos h59]
          obtain ⟨c1, c2⟩ := (pass_iff (by decide)).mp h59
          have hst : pst n (tx q) (st, r + 1, g', us, fi', se', th', sn) = some (0, r + 1 + 1, g', 0, fi', se', th', updN sn (r + 1) g') := by
            rw [c2]
            rcases k3 with rfl | rfl
            · rw [pst_4b (by decide)]; exact pBr_s
            · rw [pst_5b]; exact pBr_s
          rw [MO_ss c1 hst] at k6
          have hG' : GRel n (r + 1) g' np' fi' se' th' (updN sn (r + 1) g') := by
            intro j hj
            obtain ⟨a1, a2, a3, a4, a5, a6, a7, ρ, b1, b2, b3, b4⟩ := k7 j hj
            refine ⟨a1, a2, a3, a4, a5, a6, a7, ρ, by omega, b2, by rw [updN_n (by omega)]; exact b3, fun _ => ?_⟩
            by_cases hρ : ρ = r
            · rw [hρ, updN_e]; exact hj
            · rw [updN_n (by omega)]; exact b4 (by omega)
          have hS' : SRel (r + 1) g' (updN sn (r + 1) g') := by
            obtain ⟨s1, s2, s3⟩ := hS
            refine ⟨by rw [updN_n (by omega)]; exact s1, fun ρ hρ => ?_, by rw [updN_e]; exact Nat.le_refl _⟩
            by_cases hρ2 : ρ = r
            · rw [hρ2, updN_e, updN_n (by omega)]; omega
            · rw [updN_n (by omega), updN_n (by omega)]; exact s2 ρ (by omega)
          have := ih (r + 1) g' np' (q + 1) fi' se' th' _ (by omega) (by omega) (by omega) hG' hS' k6
          refine ⟨this.1, fun z => ?_⟩
          obtain ⟨a1, a2, a3, a4, a5⟩ := this.2 z
          exact ⟨a1, a2, a3, by omega, a5⟩
        · rw [if_neg h59]
          refine ⟨fun z => absurd rfl z, fun _ => ⟨k1, by show 1 ≤ r + 1; omega, by show r + 1 ≤ 12; omega, k2, st, us, fi', se', th', sn, k3, k4, fun z => ⟨k5 z, fun z2 => h59 ((pass_iff (by decide)).mpr ⟨z, z2⟩)⟩, k6, k7, hS.1, hS.2.1, ?_⟩⟩
          have := hS.2.2
          show sn r ≤ g'
          omega
      · rw [if_neg (pass_d hw)]
        exact ⟨r1, fun q => absurd q hw⟩
end PGM
end
section
/-! THE PLAN'S TEXT AS THE CLASS READS IT -/
/-- the cells of one plan -/
def PR (P b _k : Nat) : Prop := P ≤ b ∧ b ≤ P + 5
def slk (st : Nat) : Nat := if st = 0 then 0 else if st = 1 then 3 else if st = 2 then 2 else if st = 3 then 2 else 1
def PCV (p st rd gm : Nat) : Prop := st ≤ 5 ∧ 1 ≤ rd ∧ rd ≤ 13 ∧ 4 * gm ≤ p + slk st ∧ (st ≠ 0 → 1 ≤ gm) ∧ (rd = 13 → st = 0)
def PCC (P st rd gm : Nat) (us : Int32) (fi se th : Nat → Int32) (sn : Nat → Nat) (m : Wm) : Prop :=
  m.1 P 7 = nI st ∧ m.1 P 5 = nI rd ∧ m.1 P 6 = nI gm ∧ m.1 P 8 = us ∧ (∀ j, j < gm → m.1 (P + 1) j = fi j) ∧ (∀ j, j < gm → m.1 (P + 2) j = se j) ∧ (∀ j, j < gm → m.1 (P + 3) j = th j) ∧ (∀ ρ, ρ < rd → ρ < 12 → m.1 (P + 4) ρ = nI (sn ρ))
def PCT (P p : Nat) : PlS → Wm → Prop
  | (st, rd, gm, us, fi, se, th, sn), m => PCV p st rd gm ∧ PCC P st rd gm us fi se th sn m
def PCQ (m0 : Wm) (P n p : Nat) (c : Int32) (S : PlS) (r : Option Value) (m' : Wm) : Prop := WT m' ∧ Fx (PR P) m0 m' ∧ ((r = some (.int 1) ∧ ∃ S', pst n c S = some S' ∧ PCT P (p + 1) S' m') ∨ (r = some (.int 0) ∧ pst n c S = none))
section PCL
variable {ad : Nat → Nat} {d : Nat} {m m0 : Wm} {P n p rd gm : Nat} {us c : Int32} {fi se th : Nat → Int32} {sn : Nat → Nat}
theorem and1_n {y : Int32} : ¬ (y &&& 1) = 1 ↔ (y &&& 1) = 0 := by
  have h := t_and1 y
  have z1 : (1 : Int32).toInt = 1 := rfl
  have z0 : (0 : Int32).toInt = 0 := rfl
  rw [fa_eq, fa_eq, z1, z0]
  omega
theorem wP7 (hP : P = 134 ∨ P = 140) (w : WT m) {v : Int32} : WT (uI m P 7 v) := by rcases hP with rfl | rfl; exact w.n rfl; exact w.n rfl
theorem wP8 (hP : P = 134 ∨ P = 140) (w : WT m) {v : Int32} : WT (uI m P 8 v) := by rcases hP with rfl | rfl; exact w.n rfl; exact w.n rfl
theorem wP5 (hP : P = 134 ∨ P = 140) (w : WT m) {v : Nat} (h : v ≤ 13) : WT (uI m P 5 (nI v)) := by
  have e : (nI v).toInt = v := nI_toInt (by omega)
  rcases hP with rfl | rfl
  · exact w.t rfl (by omega) (by omega)
  · exact w.t rfl (by omega) (by omega)
theorem wP6 (hP : P = 134 ∨ P = 140) (w : WT m) {v : Nat} (h : v ≤ 48) : WT (uI m P 6 (nI v)) := by
  have e : (nI v).toInt = v := nI_toInt (by omega)
  rcases hP with rfl | rfl
  · exact w.t rfl (by omega) (by omega)
  · exact w.t rfl (by omega) (by omega)
theorem wPa (hP : P = 134 ∨ P = 140) (w : WT m) {k : Nat} {v : Int32} (h0 : 0 ≤ v.toInt) (h7 : v.toInt ≤ 7) : WT (uI m (P + 1) k v) := by
  rcases hP with rfl | rfl
  · exact w.t rfl h0 h7
  · exact w.t rfl h0 h7
theorem wPb (hP : P = 134 ∨ P = 140) (w : WT m) {k : Nat} {v : Int32} (h0 : 0 ≤ v.toInt) (h7 : v.toInt ≤ 7) : WT (uI m (P + 2) k v) := by
  rcases hP with rfl | rfl
  · exact w.t rfl h0 h7
  · exact w.t rfl h0 h7
theorem wPc (hP : P = 134 ∨ P = 140) (w : WT m) {k : Nat} {v : Int32} : WT (uI m (P + 3) k v) := by rcases hP with rfl | rfl; exact w.n rfl; exact w.n rfl
theorem wPd (hP : P = 134 ∨ P = 140) (w : WT m) {k v : Nat} (h : v ≤ 48) : WT (uI m (P + 4) k (nI v)) := by
  have e : (nI v).toInt = v := nI_toInt (by omega)
  rcases hP with rfl | rfl
  · exact w.t rfl (by omega) (by omega)
  · exact w.t rfl (by omega) (by omega)
theorem fP (hP : P = 134 ∨ P = 140) (_ : (0 : Nat) = 0) (f : Fx (PR P) m0 m) {j k : Nat} {v : Int32} (hj : j ≤ 5) : Fx (PR P) m0 (uI m (P + j) k v) := f.i ⟨by omega, by omega⟩
theorem fP0 (hP : P = 134 ∨ P = 140) (_ : (0 : Nat) = 0) (f : Fx (PR P) m0 m) {k : Nat} {v : Int32} : Fx (PR P) m0 (uI m P k v) := f.i ⟨by omega, by omega⟩
theorem PR_7 (hP : P = 134 ∨ P = 140) {S : List Nat} (hS : S.elem 7 = true) (a k : Nat) (h : PR P a k) : RS S a k := by
  unfold RS
  rw [rg_7 k (by have := h.1; omega) (by have := h.2; omega)]
  exact hS
theorem slk_le (st : Nat) : slk st ≤ 3 := by unfold slk; split <;> (try split) <;> (try split) <;> (try split) <;> omega
theorem e_openR (hP : P = 134 ∨ P = 140) (w : WT m) (f : Fx (PR P) m0 m) (h5 : m.1 P 5 = nI rd) (h6 : m.1 P 6 = nI gm) (hr : rd ≤ 12) (hg : gm ≤ 48) : Ct ad μX3_openRound d [.ref (ad P)] m (fun r m' => r = none ∧ WT m' ∧ Fx (PR P) m0 m' ∧ m'.1 P 5 = nI (rd + 1) ∧ m'.1 P 6 = nI gm ∧ m'.1 P 7 = 0 ∧ m'.1 P 8 = 0 ∧ (∀ j k, 1 ≤ j → j ≤ 3 → m'.1 (P + j) k = m.1 (P + j) k) ∧ (∀ ρ, ρ < rd → m'.1 (P + 4) ρ = m.1 (P + 4) ρ) ∧ (rd < 12 → m'.1 (P + 4) rd = nI gm) ∧ m'.1 1 1 = m.1 1 1 ∧ ∀ k, m'.1 (P + 5) k = m.1 (P + 5) k) := by
  refine v_X3_openRound (Pl_of hP) ?_
  rw [h5, h6]
  refine ⟨fun c => ?_, fun c => ?_⟩
  · have hc := (le_l 12 12 rfl (by decide) (by omega)).mp c
    refine g_X3_openRound_22 (Pl_of hP) ?_
    rw [h5, nI_1]
    refine ⟨rfl, wP7 hP (wP8 hP (wP5 hP w (by omega))), fP0 hP rfl (fP0 hP rfl (fP0 hP rfl f)), (u_ne (by omega)).trans ((u_ne (by omega)).trans u_eq), (u_ne (by omega)).trans ((u_ne (by omega)).trans ((u_ne (by omega)).trans h6)), u_eq, (u_ne (by omega)).trans u_eq, fun j k h1 h2 => (u_ne (by omega)).trans ((u_ne (by omega)).trans (u_ne (by omega))), fun ρ hρ => (u_ne (by omega)).trans ((u_ne (by omega)).trans (u_ne (by omega))), fun q => by omega, (u_ne (by omega)).trans ((u_ne (by omega)).trans (u_ne (by omega))), fun k => (u_ne (by omega)).trans ((u_ne (by omega)).trans (u_ne (by omega)))⟩
  · have hc : rd < 12 := Nat.lt_of_not_le (fun q => c ((le_l 12 12 rfl (by decide) (by omega)).mpr q))
    refine ⟨nat_in (by omega) (by decide), ?_⟩
    rw [nI_clamp (by omega)]
    refine g_X3_openRound_22 (Pl_of hP) ?_
    have e5 : (uI m (P + 4) rd (nI gm)).1 P 5 = nI rd := (u_ne (by omega)).trans h5
    rw [e5, nI_1]
    refine ⟨rfl, wP7 hP (wP8 hP (wP5 hP (wPd hP w hg) (by omega))), fP0 hP rfl (fP0 hP rfl (fP0 hP rfl (fP hP rfl f (by decide)))), (u_ne (by omega)).trans ((u_ne (by omega)).trans u_eq), (u_ne (by omega)).trans ((u_ne (by omega)).trans ((u_ne (by omega)).trans ((u_ne (by omega)).trans h6))), u_eq, (u_ne (by omega)).trans u_eq, fun j k h1 h2 => (u_ne (by omega)).trans ((u_ne (by omega)).trans ((u_ne (by omega)).trans (u_ne (by omega)))), fun ρ hρ => (u_ne (by omega)).trans ((u_ne (by omega)).trans ((u_ne (by omega)).trans (u_ne (by omega)))), fun _ => (u_ne (by omega)).trans ((u_ne (by omega)).trans ((u_ne (by omega)).trans u_eq)), (u_ne (by omega)).trans ((u_ne (by omega)).trans ((u_ne (by omega)).trans (u_ne (by omega)))), fun k => (u_ne (by omega)).trans ((u_ne (by omega)).trans ((u_ne (by omega)).trans (u_ne (by omega))))⟩
theorem e_addG (hP : P = 134 ∨ P = 140) (h6 : m.1 P 6 = nI gm) (hg : gm < 48) {x1 x2 x3 : Int32} : Ct ad μX3_addGame d [.ref (ad P), .int x1, .int x2, .int x3] m (fun r m' => r = none ∧ m' = uI (uI (uI (uI m (P + 1) gm x1) (P + 2) gm x2) (P + 3) gm x3) P 6 (nI (gm + 1))) := by
  refine v_X3_addGame (Pl_of hP) ?_
  rw [h6]
  have e1 : (uI m (P + 1) (nI gm).toNatClampNeg x1).1 P 6 = nI gm := (u_ne (by omega)).trans h6
  rw [e1]
  have e2 : (uI (uI m (P + 1) (nI gm).toNatClampNeg x1) (P + 2) (nI gm).toNatClampNeg x2).1 P 6 = nI gm := (u_ne (by omega)).trans ((u_ne (by omega)).trans h6)
  rw [e2]
  have e3 : (uI (uI (uI m (P + 1) (nI gm).toNatClampNeg x1) (P + 2) (nI gm).toNatClampNeg x2) (P + 3) (nI gm).toNatClampNeg x3).1 P 6 = nI gm := (u_ne (by omega)).trans ((u_ne (by omega)).trans ((u_ne (by omega)).trans h6))
  rw [e3, nI_1, nI_clamp (by omega)]
  exact ⟨fun q => absurd ((le_l 48 48 rfl (by decide) (by omega)).mp q) (by omega), fun _ => ⟨nat_in hg (by decide), nat_in hg (by decide), nat_in hg (by decide), rfl, rfl⟩⟩
/-- a side's digit, where the first one is wanted -/
theorem e_side0 (hP : P = 134 ∨ P = 140) (hn : n ≤ 8) (hp : p ≤ 76) (w : WT m) (f : Fx (PR P) m0 m) (V : PCV p 0 rd gm) (C : PCC P 0 rd gm us fi se th sn m) (hr : rd ≤ 12) : Ct ad μX3_takeSide (d + 1) [.ref (ad P), .int (c - 48), .int (nI n)] m (PCQ m0 P n p c (0, rd, gm, us, fi, se, th, sn)) := by
  obtain ⟨V1, V2, V3, V4, V5, V6⟩ := V
  obtain ⟨c1, c2, c3, c4, c5, c6, c7, c8⟩ := C
  have hs0 : slk 0 = 0 := rfl
  have tn' : (nI n).toInt = n := nI_toInt (by omega)
  have bad : ¬ pSd n us c → PCQ m0 P n p c (0, rd, gm, us, fi, se, th, sn) (some (.int 0)) m := fun h => ⟨w, f, Or.inr ⟨rfl, pst_0n (fun q => h q.2)⟩⟩
  refine v_X3_takeSide (Pl_of hP) ⟨fun q => bad (fun z => ?_), fun q1 => ⟨fun q => bad (fun z => ?_), fun q2 => ⟨fun q3 => ?_, fun q => bad (fun z => ?_)⟩⟩⟩
  · have := y_ltr (n := 0) rfl q; have := z.1.1; omega
  · have := z_le q; have := z.1.2; omega
  · have a1 := y_nltr (n := 0) rfl q1
    have a2 := z_nle q2
    rw [c4] at q3 ⊢
    have hS : pSd n us c := ⟨⟨a1, by omega⟩, and1_n.mpr q3⟩
    have e7 : (uI m P 8 (us ||| ((1 : Int32) <<< ((c - 48) &&& 31)))).1 P 7 = nI 0 := (u_ne (by omega)).trans c1
    have e6 : (uI m P 8 (us ||| ((1 : Int32) <<< ((c - 48) &&& 31)))).1 P 6 = nI gm := (u_ne (by omega)).trans c3
    rw [e7]
    refine ⟨fun z => absurd nI_0 z, fun _ => (e_addG hP e6 (by omega)).to ?_⟩
    rintro _ m1 ⟨rfl, e⟩
    subst e
    refine ⟨rfl, wP7 hP (wP6 hP (wPc hP (wPb hP (wPa hP (wP8 hP w) a1 (by omega)) a1 (by omega))) (by omega)), fP0 hP rfl (fP0 hP rfl (fP hP rfl (fP hP rfl (fP hP rfl (fP0 hP rfl f) (by decide)) (by decide)) (by decide))), Or.inl ⟨rfl, _, pst_0 hr hS, ⟨by decide, V2, V3, ?_, fun _ => by omega, fun _ => by omega⟩, u_eq, ?_, ?_, ?_, fun j hj => ?_, fun j hj => ?_, fun j hj => ?_, fun ρ h1 h2 => ?_⟩⟩
    · show 4 * (gm + 1) ≤ p + 1 + 3
      omega
    · exact (u_ne (by omega)).trans ((u_ne (by omega)).trans ((u_ne (by omega)).trans ((u_ne (by omega)).trans ((u_ne (by omega)).trans ((u_ne (by omega)).trans c2)))))
    · exact (u_ne (by omega)).trans u_eq
    · exact (u_ne (by omega)).trans ((u_ne (by omega)).trans ((u_ne (by omega)).trans ((u_ne (by omega)).trans ((u_ne (by omega)).trans u_eq))))
    · by_cases hjg : j = gm
      · subst hjg
        rw [upd_e]
        exact (u_ne (by omega)).trans ((u_ne (by omega)).trans ((u_ne (by omega)).trans ((u_ne (by omega)).trans u_eq)))
      · rw [upd_n hjg]
        exact (u_ne (by omega)).trans ((u_ne (by omega)).trans ((u_ne (by omega)).trans ((u_ne (by omega)).trans ((u_ne (by omega)).trans ((u_ne (by omega)).trans (c5 j (by omega)))))))
    · by_cases hjg : j = gm
      · subst hjg
        rw [upd_e]
        exact (u_ne (by omega)).trans ((u_ne (by omega)).trans ((u_ne (by omega)).trans u_eq))
      · rw [upd_n hjg]
        exact (u_ne (by omega)).trans ((u_ne (by omega)).trans ((u_ne (by omega)).trans ((u_ne (by omega)).trans ((u_ne (by omega)).trans ((u_ne (by omega)).trans (c6 j (by omega)))))))
    · by_cases hjg : j = gm
      · subst hjg
        rw [upd_e]
        exact (u_ne (by omega)).trans ((u_ne (by omega)).trans u_eq)
      · rw [upd_n hjg]
        exact (u_ne (by omega)).trans ((u_ne (by omega)).trans ((u_ne (by omega)).trans ((u_ne (by omega)).trans ((u_ne (by omega)).trans ((u_ne (by omega)).trans (c7 j (by omega)))))))
    · exact (u_ne (by omega)).trans ((u_ne (by omega)).trans ((u_ne (by omega)).trans ((u_ne (by omega)).trans ((u_ne (by omega)).trans ((u_ne (by omega)).trans (c8 ρ h1 h2))))))
  · rw [c4] at q
    exact q (and1_n.mp z.2)
/-- where the other one is wanted -/
theorem e_side3 (hP : P = 134 ∨ P = 140) (hn : n ≤ 8) (hp : p ≤ 76) (w : WT m) (f : Fx (PR P) m0 m) (V : PCV p 3 rd gm) (C : PCC P 3 rd gm us fi se th sn m) (hr : rd ≤ 12) : Ct ad μX3_takeSide (d + 1) [.ref (ad P), .int (c - 48), .int (nI n)] m (PCQ m0 P n p c (3, rd, gm, us, fi, se, th, sn)) := by
  obtain ⟨V1, V2, V3, V4, V5, V6⟩ := V
  obtain ⟨c1, c2, c3, c4, c5, c6, c7, c8⟩ := C
  have hs0 : slk 3 = 2 := rfl
  have hgm := V5 (by decide)
  obtain ⟨g, rfl⟩ : ∃ g, gm = g + 1 := ⟨gm - 1, by omega⟩
  have tn' : (nI n).toInt = n := nI_toInt (by omega)
  have bad : ¬ pSd n us c → PCQ m0 P n p c (3, rd, g + 1, us, fi, se, th, sn) (some (.int 0)) m := fun h => ⟨w, f, Or.inr ⟨rfl, pst_3n (fun q => h q.2)⟩⟩
  refine v_X3_takeSide (Pl_of hP) ⟨fun q => bad (fun z => ?_), fun q1 => ⟨fun q => bad (fun z => ?_), fun q2 => ⟨fun q3 => ?_, fun q => bad (fun z => ?_)⟩⟩⟩
  · have := y_ltr (n := 0) rfl q; have := z.1.1; omega
  · have := z_le q; have := z.1.2; omega
  · have a1 := y_nltr (n := 0) rfl q1
    have a2 := z_nle q2
    rw [c4] at q3 ⊢
    have hS : pSd n us c := ⟨⟨a1, by omega⟩, and1_n.mpr q3⟩
    have e7 : (uI m P 8 (us ||| ((1 : Int32) <<< ((c - 48) &&& 31)))).1 P 7 = nI 3 := (u_ne (by omega)).trans c1
    have e6 : (uI m P 8 (us ||| ((1 : Int32) <<< ((c - 48) &&& 31)))).1 P 6 = nI (g + 1) := (u_ne (by omega)).trans c3
    rw [e7, e6, nI_pred, nI_clamp (by omega)]
    refine ⟨fun _ => ⟨fun z => absurd z (nI_nle (by omega) (by omega)), fun _ => ⟨nat_in (by omega) (by decide), ?_⟩⟩, fun z => absurd z (by decide)⟩
    refine ⟨wP7 hP (wPb hP (wP8 hP w) a1 (by omega)), fP0 hP rfl (fP hP rfl (fP0 hP rfl f) (by decide)), Or.inl ⟨rfl, _, pst_3 hr hS, ⟨by decide, V2, V3, ?_, fun _ => by omega, fun _ => by omega⟩, u_eq, ?_, ?_, ?_, fun j hj => ?_, fun j hj => ?_, fun j hj => ?_, fun ρ h1 h2 => ?_⟩⟩
    · show 4 * (g + 1) ≤ p + 1 + 1
      omega
    · exact (u_ne (by omega)).trans ((u_ne (by omega)).trans ((u_ne (by omega)).trans c2))
    · exact (u_ne (by omega)).trans ((u_ne (by omega)).trans ((u_ne (by omega)).trans c3))
    · exact (u_ne (by omega)).trans ((u_ne (by omega)).trans u_eq)
    · exact (u_ne (by omega)).trans ((u_ne (by omega)).trans ((u_ne (by omega)).trans (c5 j hj)))
    · rw [Nat.add_sub_cancel]
      by_cases hjg : j = g
      · subst hjg
        rw [upd_e]
        exact (u_ne (by omega)).trans u_eq
      · rw [upd_n hjg]
        exact (u_ne (by omega)).trans ((u_ne (by omega)).trans ((u_ne (by omega)).trans (c6 j hj)))
    · exact (u_ne (by omega)).trans ((u_ne (by omega)).trans ((u_ne (by omega)).trans (c7 j hj)))
    · exact (u_ne (by omega)).trans ((u_ne (by omega)).trans ((u_ne (by omega)).trans (c8 ρ h1 h2)))
  · rw [c4] at q
    exact q (and1_n.mp z.2)
/-- a game is thrown -/
theorem e_throw (hP : P = 134 ∨ P = 140) (w : WT m) (f : Fx (PR P) m0 m) {st st' : Nat} {x2 : Int32} (hst : st = 1 ∨ st = 4) (hp : p ≤ 76) (V : PCV p st rd gm) (C : PCC P st rd gm us fi se th sn m) (h33 : c = 33) (hst' : 4 * gm ≤ p + 1 + slk st' ∧ st' ≤ 5) : Ct ad μX3_takeThrow d [.ref (ad P), .int c, .int x2, .int (nI st')] m (fun r m' => r = some (.int 1) ∧ WT m' ∧ Fx (PR P) m0 m' ∧ PCT P (p + 1) (st', rd, gm, us, fi, se, upd th (gm - 1) (th (gm - 1) ||| x2), sn) m') := by
  obtain ⟨V1, V2, V3, V4, V5, V6⟩ := V
  obtain ⟨c1, c2, c3, c4, c5, c6, c7, c8⟩ := C
  have hs0 := slk_le st
  have hgm := V5 (by omega)
  obtain ⟨g, rfl⟩ : ∃ g, gm = g + 1 := ⟨gm - 1, by omega⟩
  refine v_X3_takeThrow (Pl_of hP) ⟨fun _ => ?_, fun q => absurd h33 q⟩
  rw [c3, nI_pred, nI_clamp (by omega)]
  refine ⟨fun z => absurd z (nI_nle (by omega) (by omega)), fun _ => ⟨nat_in (by omega) (by decide), nat_in (by omega) (by decide), rfl, wP7 hP (wPc hP w), fP0 hP rfl (fP hP rfl f (by decide)), ⟨hst'.2, V2, V3, hst'.1, fun _ => by omega, fun _ => by omega⟩, u_eq, ?_, ?_, ?_, fun j hj => ?_, fun j hj => ?_, fun j hj => ?_, fun ρ h1 h2 => ?_⟩⟩
  · exact (u_ne (by omega)).trans ((u_ne (by omega)).trans c2)
  · exact (u_ne (by omega)).trans ((u_ne (by omega)).trans c3)
  · exact (u_ne (by omega)).trans ((u_ne (by omega)).trans c4)
  · exact (u_ne (by omega)).trans ((u_ne (by omega)).trans (c5 j hj))
  · exact (u_ne (by omega)).trans ((u_ne (by omega)).trans (c6 j hj))
  · rw [Nat.add_sub_cancel]
    by_cases hjg : j = g
    · subst hjg
      rw [upd_e, c7 j (by omega)]
      exact (u_ne (by omega)).trans u_eq
    · rw [upd_n hjg]
      exact (u_ne (by omega)).trans ((u_ne (by omega)).trans (c7 j hj))
  · exact (u_ne (by omega)).trans ((u_ne (by omega)).trans (c8 ρ h1 h2))
theorem e_break (hP : P = 134 ∨ P = 140) (w : WT m) (f : Fx (PR P) m0 m) {st : Nat} {S : PlS} (hst : st = 4 ∨ st = 5) (hp : p ≤ 76) (V : PCV p st rd gm) (C : PCC P st rd gm us fi se th sn m) (hr : rd ≤ 12) (hS : pst n c S = pBr c rd gm us fi se th sn) : Ct ad μX3_takeBreak (d + 1) [.ref (ad P), .int c] m (PCQ m0 P n p c S) := by
  obtain ⟨V1, V2, V3, V4, V5, V6⟩ := V
  obtain ⟨c1, c2, c3, c4, c5, c6, c7, c8⟩ := C
  have hs0 : slk st = 1 := by rcases hst with rfl | rfl <;> rfl
  refine v_X3_takeBreak (Pl_of hP) ⟨fun h59 => ⟨fun h44 => ⟨wP7 hP w, fP0 hP rfl f, Or.inr ⟨rfl, hS.trans (pBr_n h59 h44)⟩⟩, fun h44 => ?_⟩, fun h59 => (e_openR hP w f c2 c3 hr (by omega)).to ?_⟩
  · subst h44
    refine ⟨wP7 hP w, fP0 hP rfl f, Or.inl ⟨rfl, _, hS.trans pBr_c, ⟨by decide, V2, V3, ?_, fun q => absurd rfl q, fun _ => rfl⟩, u_eq, (u_ne (by omega)).trans c2, (u_ne (by omega)).trans c3, (u_ne (by omega)).trans c4, fun j hj => (u_ne (by omega)).trans (c5 j hj), fun j hj => (u_ne (by omega)).trans (c6 j hj), fun j hj => (u_ne (by omega)).trans (c7 j hj), fun ρ h1 h2 => (u_ne (by omega)).trans (c8 ρ h1 h2)⟩⟩
    show 4 * gm ≤ p + 1 + 0
    omega
  · subst h59
    rintro _ m1 ⟨rfl, w1, f1, k5, k6, k7, k8, k9, k10, k11, -⟩
    refine ⟨rfl, w1, f1, Or.inl ⟨rfl, _, hS.trans pBr_s, ⟨by decide, by omega, by omega, ?_, fun q => absurd rfl q, fun _ => rfl⟩, k7, k5, k6, k8, fun j hj => (k9 1 j (by decide) (by decide)).trans (c5 j hj), fun j hj => (k9 2 j (by decide) (by decide)).trans (c6 j hj), fun j hj => (k9 3 j (by decide) (by decide)).trans (c7 j hj), fun ρ h1 h2 => ?_⟩⟩
    · show 4 * gm ≤ p + 1 + 0
      omega
    · by_cases hρ : ρ = rd
      · rw [hρ, updN_e]; exact k11 (by omega)
      · rw [updN_n hρ]; exact (k10 ρ (by omega)).trans (c8 ρ (by omega) h2)
theorem e_dash (hP : P = 134 ∨ P = 140) (w : WT m) (f : Fx (PR P) m0 m) {st : Nat} (hst : st = 1 ∨ st = 2) (hp : p ≤ 76) (V : PCV p st rd gm) (C : PCC P st rd gm us fi se th sn m) (h33 : st = 1 → c ≠ 33) : Ct ad μX3_takeDash d [.ref (ad P), .int c] m (PCQ m0 P n p c (st, rd, gm, us, fi, se, th, sn)) := by
  obtain ⟨V1, V2, V3, V4, V5, V6⟩ := V
  obtain ⟨c1, c2, c3, c4, c5, c6, c7, c8⟩ := C
  have hs0 : slk st ≤ 3 := slk_le st
  refine v_X3_takeDash (Pl_of hP) ⟨fun h => ?_, fun h => ⟨w, f, Or.inr ⟨rfl, ?_⟩⟩⟩
  · subst h
    have hS : pst n 45 (st, rd, gm, us, fi, se, th, sn) = some (3, rd, gm, us, fi, se, th, sn) := by
      rcases hst with rfl | rfl
      · exact pst_1d
      · exact pst_2d
    refine ⟨wP7 hP w, fP0 hP rfl f, Or.inl ⟨rfl, _, hS, ⟨by decide, V2, V3, ?_, fun _ => V5 (by omega), fun _ => by omega⟩, u_eq, (u_ne (by omega)).trans c2, (u_ne (by omega)).trans c3, (u_ne (by omega)).trans c4, fun j hj => (u_ne (by omega)).trans (c5 j hj), fun j hj => (u_ne (by omega)).trans (c6 j hj), fun j hj => (u_ne (by omega)).trans (c7 j hj), fun ρ h1 h2 => (u_ne (by omega)).trans (c8 ρ h1 h2)⟩⟩
    show 4 * gm ≤ p + 1 + 2
    omega
  · rcases hst with rfl | rfl
    · exact pst_1n (h33 rfl) h
    · exact pst_2n h
theorem e_takeP (hP : P = 134 ∨ P = 140) (hn : n ≤ 8) (hp : p ≤ 76) (w : WT m) (f : Fx (PR P) m0 m) {st : Nat} (V : PCV p st rd gm) (C : PCC P st rd gm us fi se th sn m) : Ct ad μX3_take (d + 2) [.ref (ad P), .int c, .int (nI n)] m (fun r m' => ∃ v : Int32, r = some (.int v) ∧ PCQ m0 P n p c (st, rd, gm, us, fi, se, th, sn) (some (.int v)) m') := by
  have V0 := V
  have C0 := C
  obtain ⟨V1, V2, V3, V4, V5, V6⟩ := V
  obtain ⟨c1, c2, c3, c4, c5, c6, c7, c8⟩ := C
  have wd : ∀ r m', PCQ m0 P n p c (st, rd, gm, us, fi, se, th, sn) r m' → ∃ v : Int32, r = some (Value.int v) ∧ ((v = 0 → ∃ v : Int32, some (Value.int 0) = some (Value.int v) ∧ PCQ m0 P n p c (st, rd, gm, us, fi, se, th, sn) (some (.int v)) m') ∧ (¬ v = 0 → ∃ v : Int32, some (Value.int 1) = some (Value.int v) ∧ PCQ m0 P n p c (st, rd, gm, us, fi, se, th, sn) (some (.int v)) m')) := by
    rintro r m' ⟨k1, k2, k3⟩
    rcases k3 with ⟨rfl, k4⟩ | ⟨rfl, k4⟩
    · exact ⟨1, rfl, fun q => absurd q (by decide), fun _ => ⟨1, rfl, k1, k2, Or.inl ⟨rfl, k4⟩⟩⟩
    · exact ⟨0, rfl, fun _ => ⟨0, rfl, k1, k2, Or.inr ⟨rfl, k4⟩⟩, fun q => absurd rfl q⟩
  have wb : ∀ r m', PCQ m0 P n p c (st, rd, gm, us, fi, se, th, sn) r m' → ∃ v : Int32, r = some (Value.int v) ∧ (bz v ∧ ∃ v' : Int32, some (Value.int v) = some (Value.int v') ∧ PCQ m0 P n p c (st, rd, gm, us, fi, se, th, sn) (some (.int v')) m') := by
    rintro r m' ⟨k1, k2, k3⟩
    rcases k3 with ⟨rfl, k4⟩ | ⟨rfl, k4⟩
    · exact ⟨1, rfl, bz_1, 1, rfl, k1, k2, Or.inl ⟨rfl, k4⟩⟩
    · exact ⟨0, rfl, bz_0, 0, rfl, k1, k2, Or.inr ⟨rfl, k4⟩⟩
  have i : ∀ j, j ≤ 4 → (nI st = nI j ↔ st = j) := fun j hj => nI_eq (a := st) (b := j) (by omega) (by omega)
  have i0 := i 0 (by decide)
  have i1 := i 1 (by decide)
  have i2 := i 2 (by decide)
  have i3 := i 3 (by decide)
  have i4 := i 4 (by decide)
  refine v_X3_take (d := d + 1) (Pl_of hP) ?_
  rw [c1, c2]
  refine ⟨fun q => ?_, fun q => ?_, fun q => ?_, fun q => ?_, fun q => ?_, fun q0 q1 q2 q3 q4 => ?_⟩
  · obtain rfl := i0.mp q
    refine ⟨fun q12 => ?_, fun q12 => (e_side0 hP hn hp w f V0 C0 ?_).to wd⟩
    · have := (lt_l 12 12 rfl (by decide) (by omega)).mp q12
      exact ⟨0, rfl, w, f, Or.inr ⟨rfl, pst_0n (fun z => by omega)⟩⟩
    · exact Nat.le_of_not_lt (fun z => q12 ((lt_l 12 12 rfl (by decide) (by omega)).mpr z))
  · obtain rfl := i1.mp q
    by_cases h33 : c = 33
    · refine (e_throw (d := d + 1) (st' := 2) hP w f (Or.inl rfl) hp V0 C0 h33 ⟨?_, by decide⟩).to ?_
      · have e1 : slk 1 = 3 := rfl
        show 4 * gm ≤ p + 1 + 2
        omega
      · rintro _ m1 ⟨rfl, w1, f1, k⟩
        exact ⟨1, rfl, fun _ => ⟨1, rfl, w1, f1, Or.inl ⟨rfl, _, by rw [h33]; exact pst_1t, k⟩⟩, fun z => absurd z (by decide)⟩
    · exact v_X3_takeThrow (Pl_of hP) ⟨fun z => absurd z h33, fun _ => ⟨0, rfl, fun z => absurd rfl z, fun _ => (e_dash (d := d + 1) hP w f (Or.inl rfl) hp V0 C0 (fun _ => h33)).to wd⟩⟩
  · obtain rfl := i2.mp q
    exact (e_dash (d := d + 1) hP w f (Or.inr rfl) hp V0 C0 (fun z => absurd z (by decide))).to wb
  · obtain rfl := i3.mp q
    have hr : rd ≤ 12 := by
      by_cases h13 : rd = 13
      · exact absurd (V6 h13) (by decide)
      · omega
    exact ⟨fun q12 => by have := (lt_l 12 12 rfl (by decide) (by omega)).mp q12; omega, fun q12 => (e_side3 hP hn hp w f V0 C0 hr).to wd⟩
  · obtain rfl := i4.mp q
    have hr : rd ≤ 12 := by
      by_cases h13 : rd = 13
      · exact absurd (V6 h13) (by decide)
      · omega
    by_cases h33 : c = 33
    · refine (e_throw (d := d + 1) (st' := 5) hP w f (Or.inr rfl) hp V0 C0 h33 ⟨?_, by decide⟩).to ?_
      · have e1 : slk 4 = 1 := rfl
        show 4 * gm ≤ p + 1 + 1
        omega
      · rintro _ m1 ⟨rfl, w1, f1, k⟩
        exact ⟨1, rfl, fun _ => ⟨1, rfl, w1, f1, Or.inl ⟨rfl, _, by rw [h33]; exact pst_4t, k⟩⟩, fun z => absurd z (by decide)⟩
    · exact v_X3_takeThrow (Pl_of hP) ⟨fun z => absurd z h33, fun _ => ⟨0, rfl, fun z => absurd rfl z, fun _ => (e_break (d := d) hP w f (Or.inl rfl) hp V0 C0 hr (pst_4b h33)).to wd⟩⟩
  · have h5 : st = 5 := by
      have a0 : st ≠ 0 := fun z => q0 (i0.mpr z)
      have a1 : st ≠ 1 := fun z => q1 (i1.mpr z)
      have a2 : st ≠ 2 := fun z => q2 (i2.mpr z)
      have a3 : st ≠ 3 := fun z => q3 (i3.mpr z)
      have a4 : st ≠ 4 := fun z => q4 (i4.mpr z)
      omega
    subst h5
    have hr : rd ≤ 12 := by
      by_cases h13 : rd = 13
      · exact absurd (V6 h13) (by decide)
      · omega
    exact (e_break (d := d) hP w f (Or.inr rfl) hp V0 C0 hr pst_5b).to wb
end PCL
end
section
/-! plan(): THE CLASS -/
section PCM
variable {ad : Nat → Nat} {d : Nat} {m : Wm}
def pcR (m : Wm) (P : Nat) (O : Nat ⊕ PlS) (r : Option Value) (m' : Wm) : Prop := WT m' ∧ Fx (PR P) m m' ∧ (∀ q, O = .inl q → r = some (.int (nI q)) ∧ q ≤ 76) ∧ ∀ S, O = .inr S → r = some (.int (-1)) ∧ pok S = true ∧ ∃ p, p ≤ 76 ∧ PCT P p S m'
theorem e_compP {P n t : Nat} {fi se th : Nat → Int32} {sn : Nat → Nat} (hP : P = 134 ∨ P = 140) (w : WT m) (hn8 : n ≤ 8) (ht : m.1 1 1 = nI t) (ht80 : t ≤ 80) (ht0 : t ≠ 0) (hsn : sn 0 = 0) : Ct ad μX3_compile (d + 3) [.ref (ad P), .ref (ad 1), .int (nI n)] m (pcR m P (MO (pst n) pok (m.1 2) (decide (76 < t)) (minT t 76) 0 (0, 1, 0, 0, fi, se, th, sn))) := by
  generalize hO0 : MO (pst n) pok (m.1 2) (decide (76 < t)) (minT t 76) 0 (0, 1, 0, 0, fi, se, th, sn) = O
  have e76 : minT t 76 ≤ 76 := by unfold minT; split <;> omega
  have et : minT t 76 ≤ t := by unfold minT; split <;> omega
  have L : ∀ (k p : Nat) (S : PlS) (m1 : Wm), minT t 76 - p < k → p ≤ minT t 76 → WT m1 → Fx (PR P) m m1 → PCT P p S m1 → MO (pst n) pok (m.1 2) (decide (76 < t)) (minT t 76 - p) p S = O →
      AW ad E0 μX3_compile (d + 3) (pcR m P O) 30 [(0, .ref (ad P)), (1, .ref (ad 1)), (2, .int (nI n)), (3, .int (nI (minT t 76))), (4, .int (nI p))] [] m1 := by
    intro k
    induction k with
    | zero => intros; omega
    | succ k ih =>
      intro p S m1 hk hp w1 f1 hS hO
      obtain ⟨st, rd, gm, us, fi, se, th, sn⟩ := S
      obtain ⟨V, C⟩ := hS
      have t1 : m1.1 1 1 = nI t := (f1.at (a := 1) (k := 1) (by unfold PR; omega)).trans ht
      have t2 : ∀ k, m1.1 2 k = m.1 2 k := fun k => f1.at (a := 2) (k := k) (by unfold PR; omega)
      refine g_X3_compile_30 (Pl_of hP) ⟨fun c => ?_, fun c => ?_⟩
      · have hpe : p = minT t 76 := by have := (nI_leI (a := minT t 76) (b := p) (by omega) (by omega)).mp c; omega
        rw [t1, C.1]
        rw [show minT t 76 - p = 0 by omega] at hO
        have i4 : nI st = 4 ↔ st = 4 := nI_eq (a := st) (b := 4) (by have := V.1; omega) (by decide)
        have i5 : nI st = 5 ↔ st = 5 := nI_eq (a := st) (b := 5) (by have := V.1; omega) (by decide)
        have bad : O = .inl p → pcR m P O (some (.int (nI (minT t 76)))) m1 := fun h => ⟨w1, f1, fun q2 h2 => (by rw [h] at h2; cases h2; exact ⟨by rw [hpe], by omega⟩), fun S2 h2 => (by rw [h] at h2; cases h2)⟩
        have good : decide (76 < t) = false → pok (st, rd, gm, us, fi, se, th, sn) = true → pcR m P O (some (.int (-1))) m1 := fun hb hk2 => by
          rw [MO_e ⟨hb, hk2⟩] at hO
          exact ⟨w1, f1, fun q2 h2 => (by rw [h2] at hO; cases hO), fun S2 h2 => (by rw [h2] at hO; cases hO; exact ⟨rfl, hk2, p, by omega, V, C⟩)⟩
        refine ⟨fun q => bad ?_, fun q => ⟨fun q4 => good ?_ ?_, fun q4 => ⟨fun q5 => good ?_ ?_, fun q5 => bad ?_⟩⟩⟩
        · have q' := (lt_l 76 76 rfl (by decide) (by omega)).mp q
          have hb : decide (76 < t) = true := decide_eq_true q'
          rw [← hO]
          exact MO_n (by rw [hb]; exact fun z => absurd z.1 (by decide))
        · exact decide_eq_false (fun z => q ((lt_l 76 76 rfl (by decide) (by omega)).mpr z))
        · exact decide_eq_true (Or.inl (i4.mp q4))
        · exact decide_eq_false (fun z => q ((lt_l 76 76 rfl (by decide) (by omega)).mpr z))
        · exact decide_eq_true (Or.inr (i5.mp q5))
        · rw [← hO]
          refine MO_n (fun z => ?_)
          have := of_decide_eq_true z.2
          rcases this with z | z
          · exact q4 (i4.mpr z)
          · exact q5 (i5.mpr z)
      · have hpe : p < minT t 76 := Nat.lt_of_not_le (fun z => c ((nI_leI (a := minT t 76) (b := p) (by omega) (by omega)).mpr z))
        rw [nI_clamp (by omega), t2]
        refine ⟨nat_in (by omega) (by decide), (e_takeP (d := d) (m0 := m) hP hn8 (by omega) w1 f1 V C).to ?_⟩
        rintro r m2 ⟨v, rfl, w2, f2, h⟩
        rcases h with ⟨hv, S2, e2, hS2⟩ | ⟨hv, e2⟩
        · cases hv
          rw [MO_ss hpe e2] at hO
          refine ⟨1, rfl, fun _ => ?_, fun z => absurd z (by decide)⟩
          rw [nI_1]
          exact ih (p + 1) S2 m2 (by omega) (by omega) w2 f2 hS2 hO
        · cases hv
          rw [ep_s hpe, MO_f e2] at hO
          refine ⟨0, rfl, fun z => absurd rfl z, fun _ => ⟨w2, f2, fun q2 h2 => ?_, fun S2 h2 => ?_⟩⟩
          · rw [h2] at hO; cases hO; exact ⟨rfl, by omega⟩
          · rw [h2] at hO; cases hO
  refine v_X3_compile (d := d + 2) (Pl_of hP) ((e_clearP (Pl_of hP)).to ?_)
  rintro _ m1 ⟨rfl, e⟩
  subst e
  have w1 : WT (uI (uI m P 5 0) P 6 0) := wP6 (v := 0) hP (wP5 (v := 0) hP w (by decide)) (by decide)
  have f1 : Fx (PR P) m (uI (uI m P 5 0) P 6 0) := fP0 hP rfl (fP0 hP rfl Fx.rf)
  have h11 : (uI (uI m P 5 0) P 6 0).1 1 1 = nI t := (u_ne (by omega)).trans ((u_ne (by omega)).trans ht)
  rw [h11]
  refine ⟨rfl, fun _ => (e_openR (rd := 0) (gm := 0) hP w1 f1 ((u_ne (by omega)).trans u_eq) u_eq (by decide) (by decide)).to ?_, fun q => absurd ((nI_eq (a := t) (b := 0) (by omega) (by decide)).mp q) ht0⟩
  rintro _ m2 ⟨rfl, w2, f2, k5, k6, k7, k8, -, -, k11, k12, -⟩
  refine ⟨rfl, ?_⟩
  rw [k12, h11, minT_i ht80]
  exact L 81 0 (0, 1, 0, 0, fi, se, th, sn) m2 (by omega) (Nat.zero_le _) w2 f2 ⟨⟨by decide, by decide, by decide, Nat.zero_le _, fun q => absurd rfl q, fun q => absurd q (by decide)⟩, k7, k5, k6, k8, fun j hj => absurd hj (Nat.not_lt_zero j), fun j hj => absurd hj (Nat.not_lt_zero j), fun j hj => absurd hj (Nat.not_lt_zero j), fun ρ h1 _ => by
    have : ρ = 0 := by omega
    subst this
    rw [hsn]
    exact k11 (by decide)⟩ hO0
theorem e_compP0 {P n : Nat} (hP : P = 134 ∨ P = 140) (w : WT m) (ht : m.1 1 1 = 0) : Ct ad μX3_compile (d + 3) [.ref (ad P), .ref (ad 1), .int (nI n)] m (fun r m' => WT m' ∧ Fx (PR P) m m' ∧ r = some (.int (-1)) ∧ m'.1 P 5 = 0 ∧ m'.1 P 6 = 0) := by
  refine v_X3_compile (d := d + 2) (Pl_of hP) ((e_clearP (Pl_of hP)).to ?_)
  rintro _ m1 ⟨rfl, e⟩
  subst e
  have w1 : WT (uI (uI m P 5 0) P 6 0) := wP6 (v := 0) hP (wP5 (v := 0) hP w (by decide)) (by decide)
  have f1 : Fx (PR P) m (uI (uI m P 5 0) P 6 0) := fP0 hP rfl (fP0 hP rfl Fx.rf)
  have h11 : (uI (uI m P 5 0) P 6 0).1 1 1 = 0 := (u_ne (by omega)).trans ((u_ne (by omega)).trans ht)
  exact ⟨rfl, fun q => absurd h11 q, fun _ => ⟨w1, f1, rfl, (u_ne (by omega)).trans u_eq, u_eq⟩⟩
/-- which plan is in use, which one is spare -/
def PRF (m : Wm) (P Q : Nat) : Prop := m.2.2 0 9 = some P ∧ m.2.2 0 10 = some Q ∧ ((P = 134 ∧ Q = 140) ∨ (P = 140 ∧ Q = 134))
def plC (m : Wm) (P Q : Nat) (O : Nat ⊕ PlS) (r : Option Value) (m' : Wm) : Prop := WT m' ∧ Fx (RS [0, 7, 44, 54]) m m' ∧ m'.1 1 1 = 0 ∧
  (∀ q, O = .inl q → r = some (.int (-1 - nI q)) ∧ PRF m' P Q ∧ (∀ b k, P ≤ b → b ≤ P + 5 → m'.1 b k = m.1 b k) ∧ Fx (RS [0, 7]) m m') ∧
  ∀ st rd gm us fi se th sn, O = .inr (st, rd, gm, us, fi, se, th, sn) → r = some (.int (nI rd)) ∧ PRF m' Q P ∧ m'.1 0 11 = 0 ∧ (1 ≤ rd ∧ rd ≤ 12 ∧ 1 ≤ gm ∧ gm ≤ 20) ∧ PCC Q st rd gm us fi se th sn m'
theorem e_planC {P Q n t : Nat} {fi se th : Nat → Int32} {sn : Nat → Nat} (w : WT m) (hn : m.1 3 3 = nI n) (hn8 : n ≤ 8) (ht : m.1 1 1 = nI t) (ht80 : t ≤ 80) (ht0 : t ≠ 0) (hsn : sn 0 = 0) (hR : PRF m P Q) : Ct ad μX11_plan (d + 4) [.ref (ad 0)] m (plC m P Q (MO (pst n) pok (m.1 2) (decide (76 < t)) (minT t 76) 0 (0, 1, 0, 0, fi, se, th, sn))) := by
  obtain ⟨h9, h10, hPQ⟩ := hR
  have hP : P = 134 ∨ P = 140 := by omega
  have hQ : Q = 134 ∨ Q = 140 := by omega
  refine v_X11_plan (d := d + 3) ⟨Q, h10, Pl_of hQ, ?_⟩
  rw [hn]
  refine (e_compP (d := d) (fi := fi) (se := se) (th := th) (sn := sn) hQ w hn8 ht ht80 ht0 hsn).to ?_
  generalize MO (pst n) pok (m.1 2) (decide (76 < t)) (minT t 76) 0 (0, 1, 0, 0, fi, se, th, sn) = O
  rintro r m1 ⟨w1, f1, hq, hS⟩
  have w2 : WT (uI m1 1 1 (0 : Int32)) := w1.t rfl (by decide) (by decide)
  have f1' : Fx (RS [0, 7]) m m1 := (Fx.rf (S := RS [0, 7])).tr f1 (PR_7 hQ rfl)
  have f2 : Fx (RS [0, 7]) m (uI m1 1 1 (0 : Int32)) := f1'.i rfl
  have r9 : (uI m1 1 1 (0 : Int32)).2.2 0 9 = some P := (f1 0 9 (by unfold PR; omega)).2.2.trans h9
  have r10 : (uI m1 1 1 (0 : Int32)).2.2 0 10 = some Q := (f1 0 10 (by unfold PR; omega)).2.2.trans h10
  cases hO : O with
  | inl q =>
    obtain ⟨rfl, q76⟩ := hq q hO
    refine ⟨nI q, rfl, fun z => absurd z.symm (m1_ne q (by omega)), fun _ => ⟨w2, (Fx.rf (S := RS [0, 7, 44, 54])).tr f2 (RS_sub rfl), rfl, fun q2 h2 => ?_, fun _ _ _ _ _ _ _ _ h2 => by cases h2⟩⟩
    cases h2
    exact ⟨rfl, ⟨r9, r10, hPQ⟩, fun b k hb1 hb2 => (u_ne (by omega)).trans (f1.at (by unfold PR; omega)), f2⟩
  | inr S =>
    obtain ⟨rfl, hk2, p, hp, hS2⟩ := hS S hO
    obtain ⟨st, rd, gm, us, fi', se', th', sn'⟩ := S
    obtain ⟨V, C⟩ := hS2
    obtain ⟨V1, V2, V3, V4, V5, V6⟩ := V
    have hsl := slk_le st
    refine ⟨-1, rfl, fun _ => ⟨P, r9, Pl_of hP, Q, r10, Pl_of hQ, ?_⟩, fun z => absurd rfl z⟩
    have w3 : WT (uI (uR (uR (uI m1 1 1 (0 : Int32)) 0 9 (some Q)) 0 10 (some P)) 0 11 (0 : Int32)) := ((w2.rP (Or.inl rfl) hQ).rP (Or.inr rfl) hP).n rfl
    have f3 : Fx (RS [0, 7, 44, 54]) m (uI (uR (uR (uI m1 1 1 (0 : Int32)) 0 9 (some Q)) 0 10 (some P)) 0 11 (0 : Int32)) := (((Fx.rf (S := RS [0, 7, 44, 54])).tr f2 (RS_sub rfl)).r rfl |>.r rfl).i rfl
    have n9 : (uI (uR (uR (uI m1 1 1 (0 : Int32)) 0 9 (some Q)) 0 10 (some P)) 0 11 (0 : Int32)).2.2 0 9 = some Q := rfl
    have n10 : (uI (uR (uR (uI m1 1 1 (0 : Int32)) 0 9 (some Q)) 0 10 (some P)) 0 11 (0 : Int32)).2.2 0 10 = some P := rfl
    have cell : ∀ b k, 133 < b → b < 146 → (uI (uR (uR (uI m1 1 1 (0 : Int32)) 0 9 (some Q)) 0 10 (some P)) 0 11 (0 : Int32)).1 b k = m1.1 b k := fun b k h1 h2 => (u_ne (by omega)).trans (u_ne (by omega))
    have j11 : (uI (uR (uR (uI m1 1 1 (0 : Int32)) 0 9 (some Q)) 0 10 (some P)) 0 11 (0 : Int32)).1 1 1 = 0 := rfl
    have j011 : (uI (uR (uR (uI m1 1 1 (0 : Int32)) 0 9 (some Q)) 0 10 (some P)) 0 11 (0 : Int32)).1 0 11 = 0 := rfl
    refine ⟨Q, n9, Pl_of hQ, ?_⟩
    generalize uI (uR (uR (uI m1 1 1 (0 : Int32)) 0 9 (some Q)) 0 10 (some P)) 0 11 (0 : Int32) = m4 at w3 f3 n9 n10 cell j11 j011 ⊢
    obtain ⟨c1, c2, c3, c4, c5, c6, c7, c8⟩ := C
    have hst : st ≠ 0 := fun z => by
      rw [z] at hk2
      have h3 : decide ((0 : Nat) = 4 ∨ (0 : Nat) = 5) = true := hk2
      exact absurd h3 (by decide)
    have hr13 : rd ≠ 13 := fun z => hst (V6 z)
    refine ⟨w3, f3, j11, fun q2 h2 => (by cases h2), fun st2 rd2 gm2 us2 fi2 se2 th2 sn2 h2 => ?_⟩
    cases h2
    refine ⟨by rw [cell Q 5 (by omega) (by omega), c2], ⟨n9, n10, by omega⟩, j011, ⟨V2, by omega, V5 hst, by omega⟩, (cell Q 7 (by omega) (by omega)).trans c1, (cell Q 5 (by omega) (by omega)).trans c2, (cell Q 6 (by omega) (by omega)).trans c3, (cell Q 8 (by omega) (by omega)).trans c4, fun j hj => (cell _ j (by omega) (by omega)).trans (c5 j hj), fun j hj => (cell _ j (by omega) (by omega)).trans (c6 j hj), fun j hj => (cell _ j (by omega) (by omega)).trans (c7 j hj), fun ρ h1 h2 => (cell _ ρ (by omega) (by omega)).trans (c8 ρ h1 h2)⟩
theorem e_planC0 {P Q n : Nat} (w : WT m) (hn : m.1 3 3 = nI n) (ht : m.1 1 1 = 0) (hR : PRF m P Q) : Ct ad μX11_plan (d + 4) [.ref (ad 0)] m (fun r m' => WT m' ∧ Fx (RS [0, 7, 44, 54]) m m' ∧ m'.1 1 1 = 0 ∧ r = some (.int 0) ∧ PRF m' Q P ∧ m'.1 0 11 = 0 ∧ m'.1 Q 5 = 0 ∧ m'.1 Q 6 = 0) := by
  obtain ⟨h9, h10, hPQ⟩ := hR
  have hP : P = 134 ∨ P = 140 := by omega
  have hQ : Q = 134 ∨ Q = 140 := by omega
  refine v_X11_plan (d := d + 3) ⟨Q, h10, Pl_of hQ, ?_⟩
  rw [hn]
  refine (e_compP0 (d := d) hQ w ht).to ?_
  rintro r m1 ⟨w1, f1, rfl, z5, z6⟩
  have w2 : WT (uI m1 1 1 (0 : Int32)) := w1.t rfl (by decide) (by decide)
  have f1' : Fx (RS [0, 7]) m m1 := (Fx.rf (S := RS [0, 7])).tr f1 (PR_7 hQ rfl)
  have f2 : Fx (RS [0, 7]) m (uI m1 1 1 (0 : Int32)) := f1'.i rfl
  have r9 : (uI m1 1 1 (0 : Int32)).2.2 0 9 = some P := (f1 0 9 (by unfold PR; omega)).2.2.trans h9
  have r10 : (uI m1 1 1 (0 : Int32)).2.2 0 10 = some Q := (f1 0 10 (by unfold PR; omega)).2.2.trans h10
  refine ⟨-1, rfl, fun _ => ⟨P, r9, Pl_of hP, Q, r10, Pl_of hQ, Q, rfl, Pl_of hQ, ?_⟩, fun z => absurd rfl z⟩
  have c5 : (uI (uR (uR (uI m1 1 1 (0 : Int32)) 0 9 (some Q)) 0 10 (some P)) 0 11 (0 : Int32)).1 Q 5 = 0 := (u_ne (by omega)).trans ((u_ne (by omega)).trans z5)
  have c6 : (uI (uR (uR (uI m1 1 1 (0 : Int32)) 0 9 (some Q)) 0 10 (some P)) 0 11 (0 : Int32)).1 Q 6 = 0 := (u_ne (by omega)).trans ((u_ne (by omega)).trans z6)
  exact ⟨((w2.rP (Or.inl rfl) hQ).rP (Or.inr rfl) hP).n rfl, (((Fx.rf (S := RS [0, 7, 44, 54])).tr f2 (RS_sub rfl)).r rfl |>.r rfl).i rfl, rfl, by rw [c5], ⟨rfl, rfl, by omega⟩, rfl, c5, c6⟩
end PCM
end
section
/-! plan(): THE MODEL -/
section PMM
variable {ad : Nat → Nat} {d : Nat} {m : Wm}
/-- how the model's plan() ends: rounds, games, the row, the place, the fault -/
def plM (m : Wm) (t r' g' : Nat) (np' : Nat → Int32) (p' : Nat) (w' : Int32) (r : Option Value) (m' : Wm) : Prop := WT m' ∧ Fx (RS [20, 21, 22, 25, 27, 52, 55]) m m' ∧ (m'.1 187 14).toInt = 0 ∧
  (w' ≠ -1 → r = some (.int (-1 - w')) ∧ Fx (RS [20, 21, 22, 27]) m m') ∧ (w' = -1 → p' < t → r = some (.int (-1 - nI p')) ∧ Fx (RS [20, 21, 22, 27]) m m') ∧
  (w' = -1 → ¬ p' < t → r = some (.int (nI r')) ∧ m'.1 187 10 = nI g' ∧ m'.1 187 11 = nI r' ∧ m'.1 187 12 = 0 ∧ r' ≤ 12 ∧ g' ≤ 40 ∧ (r' = 0 ∨ 1 ≤ g') ∧ ∀ k, k < 4 * g' → m'.1 194 k = np' k)
theorem e_planM {n t : Nat} (w : WT m) (hn : m.1 187 1 = nI n) (hn8 : n ≤ 8) (ht : m.1 187 14 = nI t) (ht80 : t ≤ 80) : Ct ad μX12_plan (d + 5) [.ref (ad 187)] m (fun r m' => ∃ r' g' np' p' w', (t ≠ 0 → rdF (m.1 195) (minT t 76) n 13 0 0 (m.1 199) (0, -1) = (r', g', np', (p', w'))) ∧ (t = 0 → r' = 0 ∧ g' = 0 ∧ p' = 0 ∧ w' = -1) ∧ plM m t r' g' np' p' w' r m') := by
  generalize hQ : (fun (r : Option Value) (m' : Wm) => ∃ r' g' np' p' w', (t ≠ 0 → rdF (m.1 195) (minT t 76) n 13 0 0 (m.1 199) (0, -1) = (r', g', np', (p', w'))) ∧ (t = 0 → r' = 0 ∧ g' = 0 ∧ p' = 0 ∧ w' = -1) ∧ plM m t r' g' np' p' w' r m') = Q
  have w0 : WT (uI m 187 17 0) := w.n rfl
  have A := pa_text (n := t) (t := 76) (by omega) (by decide)
  have he80 : minT t 76 ≤ 80 := by unfold minT; split <;> omega
  refine v_X12_plan (d := d + 4) ((begin_ok (na := 80) rfl).to ?_)
  rintro _ m1 ⟨rfl, e1⟩
  have e1' : m1 = bgM (uI m 187 17 0) 195 (nI t) (nI 76) := by rw [e1]; show _ = bgM _ _ (nI t) _; rw [← ht]; rfl
  subst e1'
  clear e1
  have f1 : Fx (RS [22]) (uI m 187 17 0) (bgM (uI m 187 17 0) 195 (nI t) (nI 76)) := bg_fx
  have P1 : PS 195 t 76 (minT t 76) ((uI m 187 17 0).1 195) 0 (-1) (bgM (uI m 187 17 0) 195 (nI t) (nI 76)) := bg_ps he80 (by decide)
  have w1 := w0.fx f1
  have F1 : Fx (RS [20, 21, 22, 27]) m (bgM (uI m 187 17 0) 195 (nI t) (nI 76)) := ((Fx.rf (S := RS [20, 21, 22, 27]) (m := m)).i (a := 187) (k := 17) (v := 0) rfl).tr f1 (RS_sub rfl)
  have c199 : (bgM (uI m 187 17 0) 195 (nI t) (nI 76)).1 199 = m.1 199 := rfl
  generalize bgM (uI m 187 17 0) 195 (nI t) (nI 76) = mb at f1 P1 w1 F1 c199 ⊢
  have w2 : WT (uI mb 187 14 0) := w1.t rfl (by decide) (by decide)
  have P2 : PS 195 t 76 (minT t 76) (m.1 195) 0 (-1) (uI mb 187 14 0) := by
    obtain ⟨b1, b2, b3, b4, b5, b6, b7⟩ := P1
    exact ⟨b1, b2, b3, b4, b5, b6, fun k hk => b7 k hk⟩
  have F2 : Fx (RS [20, 21, 22, 27]) m (uI mb 187 14 0) := F1.i rfl
  have z14 : ((uI mb 187 14 0).1 187 14).toInt = 0 := rfl
  have h01 : (uI mb 187 14 0).1 187 1 = nI n := (F2.at (a := 187) (k := 1) (by decide)).trans hn
  have h19 : (uI mb 187 14 0).1 187 19 = nI t := P2.2.1
  have d199 : (uI mb 187 14 0).1 199 = m.1 199 := c199
  generalize uI mb 187 14 0 = mc at w2 P2 F2 z14 h01 h19 d199 ⊢
  refine ⟨rfl, ?_⟩
  have fin : ∀ (m' : Wm) (r' g' : Nat) (np' : Nat → Int32) (p' : Nat) (w' : Int32), (t ≠ 0 → rdF (m.1 195) (minT t 76) n 13 0 0 (m.1 199) (0, -1) = (r', g', np', (p', w'))) → (t = 0 → r' = 0 ∧ g' = 0 ∧ p' = 0 ∧ w' = -1) → PS 195 t 76 (minT t 76) (m.1 195) p' w' m' → m'.1 199 = np' → Fx (RS [22, 27]) mc m' → WT m' → (w' = -1 → r' ≤ 12 ∧ (r' = 0 ∨ 1 ≤ g')) → g' ≤ 40 → r' ≤ 13 →
      AW ad E0 μX12_plan (d + 4 + 1) Q 238 [(0, .ref (ad 187)), (1, .int (nI r')), (2, .int (nI g'))] [] m' := by
    intro m' r' g' np' p' w' hR hR0 h cnp f wt hw hg hr
    have up : ∀ r m3, plM m t r' g' np' p' w' r m3 → Q r m3 := fun r m3 hh => by
      rw [← hQ]
      exact ⟨r', g', np', p', w', hR, hR0, hh⟩
    have G2 : Fx (RS [20, 21, 22, 27]) m m' := F2.tr f (RS_sub rfl)
    have cp : w' = -1 → ¬ p' < t → r' ≤ 12 → (r' = 0 ∨ 1 ≤ g') → ∀ (j x4 : Nat) (m3 : Wm), x4 + j = 4 * g' → WT m3 → Fx (RS [20, 21, 22, 25, 27, 52, 55]) m m3 → (m3.1 187 14).toInt = 0 → m3.1 199 = np' → (∀ k, k < x4 → m3.1 194 k = np' k) → AW ad E0 μX12_plan (d + 4 + 1) Q 274 [(0, .ref (ad 187)), (1, .int (nI r')), (2, .int (nI g')), (4, .int (nI x4))] [] m3 := by
      intro hwm hpt hr12 hrg j
      have l4 : (4 : Int32) * nI g' = nI (4 * g') := l_mul 4 4 rfl g'
      have tr' : (nI r').toInt = (r' : Int) := nI_toInt (by omega)
      have tg' : (nI g').toInt = (g' : Int) := nI_toInt (by omega)
      induction j with
      | zero =>
        intro x4 m3 hx wt3 f3 h14 c3 hc
        obtain rfl : x4 = 4 * g' := hx
        refine g_X12_plan_274 ?_
        rw [l4]
        refine ⟨fun _ => up _ _ ⟨((wt3.t rfl (by omega) (by omega)).t rfl (by omega) (by omega)).n rfl, ((f3.i rfl).i rfl).i rfl, h14, fun q => absurd hwm q, fun _ q => absurd q hpt, fun _ _ => ⟨rfl, rfl, rfl, rfl, hr12, hg, hrg, fun k hk => hc k hk⟩⟩, fun c => absurd ((nI_leI (by omega) (by omega)).mpr (by omega)) c⟩
      | succ j ih =>
        intro x4 m3 hx wt3 f3 h14 c3 hc
        refine g_X12_plan_274 ?_
        rw [l4, nI_1, nI_clamp (by omega)]
        refine ⟨fun c => absurd ((nI_leI (by omega) (by omega)).mp c) (by omega), fun _ => ⟨nat_in (by omega) (by decide), nat_in (by omega) (by decide), ?_⟩⟩
        refine ih (x4 + 1) _ (by omega) ?_ (f3.i rfl) h14 ((uI_cell (by decide)).trans c3) (fun k hk => ?_)
        · by_cases hx4 : x4 % 4 < 2
          · have e9 : TY 199 x4 = some (0, 7) := if_pos hx4
            have e4 : TY 194 x4 = some (0, 7) := if_pos hx4
            have := wt3.at e9
            exact wt3.t e4 this.1 this.2
          · exact wt3.n (if_neg hx4)
        · by_cases hk4 : k = x4
          · subst hk4
            rw [u_eq, c3]
          · exact (u_ne (fun q => hk4 q.2)).trans (hc k (by omega))
    have ps22 : ∀ m3, Fx (RS [22]) m' m3 → m3.1 199 = np' := fun m3 f3 => (fx_cell (ρ := 27) f3 (fun _ => rfl) rfl).trans cnp
    have e257 : ∀ (m3 : Wm) (w3 : Int32), PS 195 t 76 (minT t 76) (m.1 195) p' w3 m3 → Fx (RS [22]) m' m3 → WT m3 → ((w3 = -1 ∧ w' = -1 ∧ ¬ p' < t) ∨ (w3 ≠ -1 ∧ w' = w3) ∨ (w3 = nI p' ∧ w' = -1 ∧ p' < t)) → AW ad E0 μX12_plan (d + 4 + 1) Q 257 [(0, .ref (ad 187)), (1, .int (nI r')), (2, .int (nI g'))] [] m3 := by
      intro m3 w3 h3 f3 wt3 hc
      have G3 : Fx (RS [20, 21, 22, 27]) m m3 := G2.tr f3 (RS_sub rfl)
      have G4 : Fx (RS [20, 21, 22, 25, 27, 52, 55]) m m3 := (Fx.rf (S := RS [20, 21, 22, 25, 27, 52, 55])).tr G3 (RS_sub rfl)
      have e14 : (m3.1 187 14).toInt = 0 := by rw [f3.at (a := 187) (k := 14) (by decide), f.at (a := 187) (k := 14) (by decide)]; exact z14
      have h80 := h3.small A
      refine g_X12_plan_257 ((fine_ok h3).to ?_)
      rintro _ m' ⟨eq, rfl⟩
      obtain rfl := eq.symm
      rcases hc with ⟨c1, c2, c3⟩ | ⟨c1, c2⟩ | ⟨c1, c2, c3⟩
      · refine ⟨1, by rw [if_pos c1], fun _ => ?_, fun c => absurd c (by decide)⟩
        have := hw c2
        exact cp c2 c3 this.1 this.2 (4 * g') 0 m3 (by omega) wt3 G4 e14 (ps22 m3 f3) (fun k hk => absurd hk (Nat.not_lt_zero k))
      · have e22 : m3.1 187 22 = w3 := h3.2.2.2.2.1
        refine ⟨0, by rw [if_neg c1], fun c => absurd rfl c, fun _ => up _ _ ⟨wt3, G4, e14, fun _ => ⟨by rw [e22, c2], G3⟩, fun q => absurd (c2.symm.trans q) c1, fun q => absurd (c2.symm.trans q) c1⟩⟩
      · have e22 : m3.1 187 22 = w3 := h3.2.2.2.2.1
        have c1' : w3 ≠ -1 := fun q => m1_ne p' (by omega) (q.symm.trans c1)
        refine ⟨0, by rw [if_neg c1'], fun c => absurd rfl c, fun _ => up _ _ ⟨wt3, G4, e14, fun q => absurd c2 q, fun _ _ => ⟨by rw [e22, c1], G3⟩, fun _ q => absurd c3 q⟩⟩
    refine g_X12_plan_238 ⟨fun c => e257 m' w' h Fx.rf wt ?_, fun c => (fault_ok A h).to ?_⟩
    · rw [h.2.1, h.2.2.2.1] at c
      have h80 := h.small A
      have c' := (nI_leI (a := t) (b := p') (by omega) (by omega)).mp c
      by_cases hwm : w' = -1
      · exact Or.inl ⟨hwm, hwm, by omega⟩
      · exact Or.inr (Or.inl ⟨hwm, rfl⟩)
    · rw [h.2.1, h.2.2.2.1] at c
      have h80 := h.small A
      have c' : p' < t := Nat.lt_of_not_le (fun q => c ((nI_leI (a := t) (b := p') (by omega) (by omega)).mpr q))
      rintro _ m3 ⟨rfl, h3, f3⟩
      refine ⟨rfl, ?_⟩
      by_cases hwm : w' = -1
      · have e1 : (fltF (m'.1 187 21) (p', w')).2 = nI p' := by
          unfold fltF
          rw [if_pos hwm]
          exact h.2.2.2.1
        rw [e1] at h3
        exact e257 m3 _ h3 f3 (wt.fx f3) (Or.inr (Or.inr ⟨rfl, hwm, c'⟩))
      · rw [flt_d hwm] at h3
        exact e257 m3 _ h3 f3 (wt.fx f3) (Or.inr (Or.inl ⟨hwm, rfl⟩))
  rw [h19]
  refine ⟨fun q => ?_, fun q => ?_⟩
  · have ht0 : t = 0 := by
      by_cases h0 : t = 0
      · exact h0
      · exact absurd q (fun z => nI_nle (by omega) (by omega) z)
    exact g_X12_plan_41 ⟨fun _ => fin mc 0 0 (m.1 199) 0 (-1) (fun z => absurd ht0 z) (fun _ => ⟨rfl, rfl, rfl, rfl⟩) P2 d199 Fx.rf w2 (fun _ => ⟨by decide, Or.inl rfl⟩) (by decide) (by decide), fun c => absurd rfl c⟩
  · have ht0 : t ≠ 0 := fun z => q (by rw [z]; decide)
    exact rd_ok A (n := n) hn8 (by decide) (m0 := mc) h01 13 0 0 (m.1 199) 0 (-1) mc (by decide) (by decide) (fun _ => ⟨by decide, Or.inl rfl⟩) (by decide) P2 d199 Fx.rf w2 (fun m' r' g' np' p' w' hR h c f wt hw hg hr => fin m' r' g' np' p' w' (fun _ => hR) (fun z => absurd z ht0) h c f wt hw hg hr)
end PMM
end
section
/-! EACH WITH EACH -/
def rotN (z : Nat) (f : Nat → Nat) : Nat → Nat := fun k => if k = 0 then f 0 else if k = 1 then f (z - 1) else f (k - 1)
/-- games, the one, the other, its round -/
abbrev CrS : Type := Nat × (Nat → Nat) × (Nat → Nat) × (Nat → Nat)
def cStep (f : Nat → Nat) (n z r k : Nat) (S : CrS) : CrS := if f k < n ∧ f (z - 1 - k) < n then (S.1 + 1, updN S.2.1 S.1 (f k), updN S.2.2.1 S.1 (f (z - 1 - k)), updN S.2.2.2 S.1 r) else S
def cIn (f : Nat → Nat) (n z r : Nat) : Nat → CrS → CrS
  | 0, S => S
  | k + 1, S => cStep f n z r k (cIn f n z r k S)
theorem cIn_s {f : Nat → Nat} {n z r k : Nat} {S : CrS} : cIn f n z r (k + 1) S = cStep f n z r k (cIn f n z r k S) := rfl
def cOut (n z : Nat) : Nat → CrS × (Nat → Nat) × (Nat → Nat)
  | 0 => ((0, (fun _ => 0), (fun _ => 0), (fun _ => 0)), (fun k => k), (fun _ => 0))
  | r + 1 => (cIn (cOut n z r).2.1 n z r (z / 2) (cOut n z r).1, rotN z (cOut n z r).2.1, updN (cOut n z r).2.2 r (cOut n z r).1.1)
theorem cIn_le {f : Nat → Nat} {n z r : Nat} {S : CrS} : ∀ k, S.1 ≤ (cIn f n z r k S).1 ∧ (cIn f n z r k S).1 ≤ S.1 + k := by
  intro k
  induction k with
  | zero => exact ⟨Nat.le_refl _, Nat.le_refl _⟩
  | succ k ih =>
    show S.1 ≤ (cStep f n z r k (cIn f n z r k S)).1 ∧ (cStep f n z r k (cIn f n z r k S)).1 ≤ S.1 + (k + 1)
    unfold cStep
    by_cases h : f k < n ∧ f (z - 1 - k) < n
    · rw [if_pos h]; dsimp only; omega
    · rw [if_neg h]; omega
theorem cOut_le {n z : Nat} (hz : z ≤ 8) : ∀ r, (cOut n z r).1.1 ≤ 4 * r := by
  intro r
  induction r with
  | zero => exact Nat.le_refl _
  | succ r ih =>
    have := (cIn_le (f := (cOut n z r).2.1) (n := n) (z := z) (r := r) (S := (cOut n z r).1) (z / 2)).2
    show (cIn (cOut n z r).2.1 n z r (z / 2) (cOut n z r).1).1 ≤ 4 * (r + 1)
    omega
theorem cOut_f {n z : Nat} (hz : 2 ≤ z) : ∀ r k, k < z → (cOut n z r).2.1 k < z := by
  intro r
  induction r with
  | zero => intro k hk; exact hk
  | succ r ih =>
    intro k hk
    show rotN z (cOut n z r).2.1 k < z
    unfold rotN
    by_cases h0 : k = 0
    · rw [if_pos h0]; exact ih 0 (by omega)
    · rw [if_neg h0]
      by_cases h1 : k = 1
      · rw [if_pos h1]; exact ih (z - 1) (by omega)
      · rw [if_neg h1]; exact ih (k - 1) (by omega)
theorem cOut_inj {n z : Nat} (hz : 2 ≤ z) : ∀ r a b, a < z → b < z → (cOut n z r).2.1 a = (cOut n z r).2.1 b → a = b := by
  intro r
  induction r with
  | zero => intro a b _ _ h; exact h
  | succ r ih =>
    intro a b ha hb h
    have h' : rotN z (cOut n z r).2.1 a = rotN z (cOut n z r).2.1 b := h
    unfold rotN at h'
    by_cases a0 : a = 0
    · by_cases b0 : b = 0
      · omega
      · by_cases b1 : b = 1
        · rw [if_pos a0, if_neg b0, if_pos b1] at h'
          have := ih 0 (z - 1) (by omega) (by omega) h'; omega
        · rw [if_pos a0, if_neg b0, if_neg b1] at h'
          have := ih 0 (b - 1) (by omega) (by omega) h'; omega
    · by_cases a1 : a = 1
      · by_cases b0 : b = 0
        · rw [if_neg a0, if_pos a1, if_pos b0] at h'
          have := ih (z - 1) 0 (by omega) (by omega) h'; omega
        · by_cases b1 : b = 1
          · omega
          · rw [if_neg a0, if_pos a1, if_neg b0, if_neg b1] at h'
            have := ih (z - 1) (b - 1) (by omega) (by omega) h'; omega
      · by_cases b0 : b = 0
        · rw [if_neg a0, if_neg a1, if_pos b0] at h'
          have := ih (a - 1) 0 (by omega) (by omega) h'; omega
        · by_cases b1 : b = 1
          · rw [if_neg a0, if_neg a1, if_neg b0, if_pos b1] at h'
            have := ih (a - 1) (z - 1) (by omega) (by omega) h'; omega
          · rw [if_neg a0, if_neg a1, if_neg b0, if_neg b1] at h'
            have := ih (a - 1) (b - 1) (by omega) (by omega) h'; omega
/-- a plan in its rounds -/
def OG (n R g : Nat) (A B C T : Nat → Nat) : Prop := (∀ j, j < g → A j < n ∧ B j < n ∧ A j ≠ B j ∧ C j < R ∧ T (C j) ≤ j ∧ (C j + 1 < R → j < T (C j + 1))) ∧ (∀ ρ, ρ < R → T ρ ≤ g ∧ (ρ + 1 < R → T ρ ≤ T (ρ + 1))) ∧ (0 < R → T 0 = 0) ∧ (R = 0 → g = 0)
theorem OG.opn {n R g : Nat} {A B C T : Nat → Nat} (h : OG n R g A B C T) : OG n (R + 1) g A B C (updN T R g) := by
  obtain ⟨h1, h2, h3, h4⟩ := h
  refine ⟨fun j hj => ?_, fun ρ hρ => ?_, fun _ => ?_, fun z => by omega⟩
  · obtain ⟨a, b, c, e, f, g'⟩ := h1 j hj
    refine ⟨a, b, c, by omega, ?_, fun hc => ?_⟩
    · rw [updN_n (by omega)]; exact f
    · by_cases q : C j + 1 = R
      · rw [q, updN_e]; exact hj
      · rw [updN_n q]; exact g' (by omega)
  · by_cases q : ρ = R
    · subst q; rw [updN_e]; exact ⟨Nat.le_refl _, fun z => by omega⟩
    · obtain ⟨a, b⟩ := h2 ρ (by omega)
      rw [updN_n q]
      refine ⟨a, fun hc => ?_⟩
      by_cases q2 : ρ + 1 = R
      · rw [q2, updN_e]; exact a
      · rw [updN_n q2]; exact b (by omega)
  · by_cases q : R = 0
    · subst q; rw [updN_e]; exact h4 rfl
    · rw [updN_n (by omega)]; exact h3 (by omega)
theorem OG.add {n r g : Nat} {A B C T : Nat → Nat} {a b : Nat} (h : OG n (r + 1) g A B C T) (ha : a < n) (hb : b < n) (hab : a ≠ b) : OG n (r + 1) (g + 1) (updN A g a) (updN B g b) (updN C g r) T := by
  obtain ⟨h1, h2, h3, h4⟩ := h
  refine ⟨fun j hj => ?_, fun ρ hρ => ?_, h3, fun z => by omega⟩
  · by_cases q : j = g
    · subst q
      rw [updN_e, updN_e, updN_e]
      exact ⟨ha, hb, hab, by omega, (h2 r (by omega)).1, fun z => by omega⟩
    · rw [updN_n q, updN_n q, updN_n q]
      exact h1 j (by omega)
  · obtain ⟨a, b⟩ := h2 ρ hρ
    exact ⟨by omega, b⟩
theorem cIn_og {f : Nat → Nat} {n z r : Nat} {S : CrS} {T : Nat → Nat} (hi : ∀ a b, a < z → b < z → f a = f b → a = b) (h : OG n (r + 1) S.1 S.2.1 S.2.2.1 S.2.2.2 T) : ∀ k, k ≤ z / 2 → OG n (r + 1) (cIn f n z r k S).1 (cIn f n z r k S).2.1 (cIn f n z r k S).2.2.1 (cIn f n z r k S).2.2.2 T := by
  intro k
  induction k with
  | zero => intro _; exact h
  | succ k ih =>
    intro hk
    have h0 := ih (by omega)
    show OG n (r + 1) (cStep f n z r k (cIn f n z r k S)).1 (cStep f n z r k (cIn f n z r k S)).2.1 (cStep f n z r k (cIn f n z r k S)).2.2.1 (cStep f n z r k (cIn f n z r k S)).2.2.2 T
    generalize cIn f n z r k S = S2 at h0 ⊢
    unfold cStep
    by_cases c : f k < n ∧ f (z - 1 - k) < n
    · rw [if_pos c]
      exact h0.add c.1 c.2 (fun q => by have := hi k (z - 1 - k) (by omega) (by omega) q; omega)
    · rw [if_neg c]; exact h0
theorem cOut_og {n z : Nat} (hz : 2 ≤ z) : ∀ r, OG n r (cOut n z r).1.1 (cOut n z r).1.2.1 (cOut n z r).1.2.2.1 (cOut n z r).1.2.2.2 (cOut n z r).2.2 := by
  intro r
  induction r with
  | zero => exact ⟨fun j hj => absurd hj (Nat.not_lt_zero j), fun ρ hρ => absurd hρ (Nat.not_lt_zero ρ), fun z => absurd z (Nat.lt_irrefl 0), fun _ => rfl⟩
  | succ r ih => exact cIn_og (cOut_inj hz r) ih.opn (z / 2) (Nat.le_refl _)
def CRel (A B : Nat → Nat) (g : Nat) (fi se th : Nat → Int32) : Prop := ∀ j, j < g → fi j = nI (A j) ∧ se j = nI (B j) ∧ th j = 0
section CRC
variable {ad : Nat → Nat} {d : Nat} {m m0 : Wm} {P n z : Nat}
theorem e_turn (hP : P = 134 ∨ P = 140) (hz : 2 ≤ z) (hz8 : z ≤ 8) {f : Nat → Nat} (w : WT m) (fx : Fx (PR P) m0 m) (hf : ∀ k, k < z → f k < z) (h : ∀ k, k < z → m.1 (P + 5) k = nI (f k)) : Ct ad μX3_turnPlaces d [.ref (ad P), .int (nI z)] m (fun r m' => r = none ∧ WT m' ∧ Fx (PR P) m0 m' ∧ (∀ k, k < z → m'.1 (P + 5) k = nI (rotN z f k)) ∧ ∀ b k, b ≠ P + 5 → m'.1 b k = m.1 b k) := by
  have e1 : nI z - 1 = nI (z - 1) := nI_sb (b := 1) (by omega) (by omega)
  have wt5 : ∀ {m1 : Wm} {k : Nat} {v : Nat}, WT m1 → v < z → WT (uI m1 (P + 5) k (nI v)) := by
    intro m1 k v w1 hv
    have tv : (nI v).toInt = v := nI_toInt (by omega)
    rcases hP with rfl | rfl
    · exact w1.t rfl (by omega) (by omega)
    · exact w1.t rfl (by omega) (by omega)
  have L : ∀ (k : Nat) (m1 : Wm), 1 ≤ k → k < z → WT m1 → Fx (PR P) m0 m1 → (∀ j, j ≤ k → m1.1 (P + 5) j = nI (f j)) → (∀ j, k < j → j < z → m1.1 (P + 5) j = nI (f (j - 1))) → (∀ b k, b ≠ P + 5 → m1.1 b k = m.1 b k) →
      AW ad E0 μX3_turnPlaces d (fun r m' => r = none ∧ WT m' ∧ Fx (PR P) m0 m' ∧ (∀ k, k < z → m'.1 (P + 5) k = nI (rotN z f k)) ∧ ∀ b k, b ≠ P + 5 → m'.1 b k = m.1 b k) 13 [(0, .ref (ad P)), (2, .int (nI (f (z - 1)))), (3, .int (nI k))] [] m1 := by
    intro k
    induction k with
    | zero => intro _ h; omega
    | succ k ih =>
      intro m1 h1 hk w1 f1 r1 r2 r3
      by_cases hk0 : k = 0
      · subst hk0
        refine g_X3_turnPlaces_13 (Pl_of hP) ⟨fun _ => ⟨rfl, wt5 w1 (hf _ (by omega)), fP hP rfl f1 (by decide), fun j hj => ?_, fun b j hb => (u_ne (fun q => hb q.1)).trans (r3 b j hb)⟩, fun c => absurd (by decide) c⟩
        unfold rotN
        have e11 : (1 : Int32).toNatClampNeg = 1 := rfl
        rw [e11]
        by_cases hj1 : j = 1
        · rw [hj1, if_neg (by decide), if_pos rfl]
          exact u_eq
        · rw [if_neg hj1]
          refine (u_ne (fun q => hj1 q.2)).trans ?_
          by_cases hj0 : j = 0
          · rw [if_pos hj0, hj0]; exact r1 0 (by omega)
          · rw [if_neg hj0]; exact r2 j (by omega) hj
      · refine g_X3_turnPlaces_13 (Pl_of hP) ⟨fun c => absurd ((l_le 1 1 rfl (by decide) (by omega)).mp c) (by omega), fun _ => ?_⟩
        rw [nI_pred, nI_dn (by omega), nI_clamp (by omega), nI_clamp (by omega), r1 k (by omega)]
        refine ⟨nat_in (by omega) (by decide), nat_in (by omega) (by decide), ih _ (by omega) (by omega) (wt5 w1 (hf k (by omega))) (fP hP rfl f1 (by decide)) (fun j hj => (u_ne (by omega)).trans (r1 j (by omega))) (fun j hj1 hj2 => ?_) (fun b j hb => (u_ne (fun q => hb q.1)).trans (r3 b j hb))⟩
        by_cases hjk : j = k + 1
        · rw [hjk, Nat.add_sub_cancel]; exact u_eq
        · exact (u_ne (fun q => hjk q.2)).trans (r2 j (by omega) hj2)
  refine v_X3_turnPlaces (Pl_of hP) ?_
  rw [e1, nI_clamp (by omega), h (z - 1) (by omega)]
  exact ⟨nat_in (by omega) (by decide), L (z - 1) m (by omega) (by omega) w fx (fun j hj => h j (by omega)) (fun j h1 h2 => absurd h2 (by omega)) (fun _ _ _ => rfl)⟩
def ciC (m0 : Wm) (P n z : Nat) (r : Option Value) (m' : Wm) : Prop := r = none ∧ WT m' ∧ Fx (PR P) m0 m' ∧ m'.1 P 5 = nI (z - 1) ∧ m'.1 P 6 = nI (cOut n z (z - 1)).1.1 ∧ CRel (cOut n z (z - 1)).1.2.1 (cOut n z (z - 1)).1.2.2.1 (cOut n z (z - 1)).1.1 (m'.1 (P + 1)) (m'.1 (P + 2)) (m'.1 (P + 3)) ∧ ∀ ρ, ρ < z - 1 → m'.1 (P + 4) ρ = nI ((cOut n z (z - 1)).2.2 ρ)
theorem e_fill (hP : P = 134 ∨ P = 140) (hn2 : 2 ≤ n) (hn8 : n ≤ 8) (hz : z = n + n % 2) (w : WT m) : Ct ad μX3_fillEachWithEach (d + 2) [.ref (ad P), .int (nI n)] m (ciC m P n z) := by
  have z8 : z ≤ 8 := by omega
  have z2 : 2 ≤ z := by omega
  have ez1 : nI z - 1 = nI (z - 1) := nI_sb (b := 1) (by omega) (by omega)
  have ez2 : nI z / 2 = nI (z / 2) := pk_div (a := z) (d := 2) (by omega) (by decide) (by decide)
  have wt5 : ∀ {m1 : Wm} {k : Nat} {v : Nat}, WT m1 → v < z → WT (uI m1 (P + 5) k (nI v)) := by
    intro m1 k v w1 hv
    have tv : (nI v).toInt = v := nI_toInt (by omega)
    rcases hP with rfl | rfl
    · exact w1.t rfl (by omega) (by omega)
    · exact w1.t rfl (by omega) (by omega)
  -- the rounds
  have RL : ∀ (i r : Nat) (m1 : Wm), r + i = z - 1 → WT m1 → Fx (PR P) m m1 → m1.1 P 5 = nI r → m1.1 P 6 = nI (cOut n z r).1.1 → CRel (cOut n z r).1.2.1 (cOut n z r).1.2.2.1 (cOut n z r).1.1 (m1.1 (P + 1)) (m1.1 (P + 2)) (m1.1 (P + 3)) → (∀ ρ, ρ < r → m1.1 (P + 4) ρ = nI ((cOut n z r).2.2 ρ)) → (∀ k, k < z → m1.1 (P + 5) k = nI ((cOut n z r).2.1 k)) →
      AW ad E0 μX3_fillEachWithEach (d + 2) (ciC m P n z) 37 [(0, .ref (ad P)), (1, .int (nI n)), (2, .int (nI z)), (3, .int (nI r))] [] m1 := by
    intro i
    induction i with
    | zero =>
      intro r m1 hr w1 f1 h5 h6 hC hS _
      obtain rfl : r = z - 1 := by omega
      refine g_X3_fillEachWithEach_37 (Pl_of hP) ?_
      rw [ez1]
      exact ⟨fun _ => ⟨rfl, w1, f1, h5, h6, hC, hS⟩, fun c => absurd (nI_le (Nat.le_refl _) (by omega)) c⟩
    | succ i ih =>
      intro r m1 hr w1 f1 h5 h6 hC hS hf
      refine g_X3_fillEachWithEach_37 (Pl_of hP) ?_
      rw [ez1]
      refine ⟨fun c => absurd ((nI_leI (by omega) (by omega)).mp c) (by omega), fun _ => (e_openR hP w1 f1 h5 h6 (by omega) (by have := cOut_le (n := n) (z := z) z8 r; omega)).to ?_⟩
      rintro _ m2 ⟨rfl, w2, f2, k5, k6, -, -, k9, k10, k11, -, k13⟩
      refine ⟨rfl, ?_⟩
      have g0 := cOut_le (n := n) (z := z) z8 r
      have ff := cOut_f (n := n) z2 r
      have hS2 : ∀ ρ, ρ < r + 1 → m2.1 (P + 4) ρ = nI (updN (cOut n z r).2.2 r (cOut n z r).1.1 ρ) := fun ρ hρ => by
        by_cases h : ρ = r
        · rw [h, updN_e]; exact k11 (by omega)
        · rw [updN_n h]; exact (k10 ρ (by omega)).trans (hS ρ (by omega))
      have hC2 : CRel (cOut n z r).1.2.1 (cOut n z r).1.2.2.1 (cOut n z r).1.1 (m2.1 (P + 1)) (m2.1 (P + 2)) (m2.1 (P + 3)) := fun j hj => by
        rw [k9 1 j (by decide) (by decide), k9 2 j (by decide) (by decide), k9 3 j (by decide) (by decide)]
        exact hC j hj
      have hf2 : ∀ k, k < z → m2.1 (P + 5) k = nI ((cOut n z r).2.1 k) := fun k hk => (k13 k).trans (hf k hk)
      have IL : ∀ (i k : Nat) (m3 : Wm), k + i = z / 2 → WT m3 → Fx (PR P) m m3 → m3.1 P 5 = nI (r + 1) → m3.1 P 6 = nI (cIn (cOut n z r).2.1 n z r k (cOut n z r).1).1 → CRel (cIn (cOut n z r).2.1 n z r k (cOut n z r).1).2.1 (cIn (cOut n z r).2.1 n z r k (cOut n z r).1).2.2.1 (cIn (cOut n z r).2.1 n z r k (cOut n z r).1).1 (m3.1 (P + 1)) (m3.1 (P + 2)) (m3.1 (P + 3)) → (∀ ρ, ρ < r + 1 → m3.1 (P + 4) ρ = nI (updN (cOut n z r).2.2 r (cOut n z r).1.1 ρ)) → (∀ k, k < z → m3.1 (P + 5) k = nI ((cOut n z r).2.1 k)) →
          AW ad E0 μX3_fillEachWithEach (d + 2) (ciC m P n z) 51 [(0, .ref (ad P)), (1, .int (nI n)), (2, .int (nI z)), (3, .int (nI r)), (4, .int (nI k))] [] m3 := by
        intro i
        induction i with
        | zero =>
          intro k m3 hk w3 f3 a5 a6 aC aS af
          obtain rfl : k = z / 2 := by omega
          refine g_X3_fillEachWithEach_51 (Pl_of hP) ?_
          rw [ez2]
          refine ⟨fun _ => (e_turn (d := d + 1) hP z2 z8 w3 f3 ff af).to ?_, fun c => absurd (nI_le (Nat.le_refl _) (by omega)) c⟩
          rintro _ m4 ⟨rfl, w4, f4, b5, b6⟩
          refine ⟨rfl, ?_⟩
          rw [nI_1]
          refine ih (r + 1) m4 (by omega) w4 f4 ((b6 P 5 (by omega)).trans a5) ((b6 P 6 (by omega)).trans a6) (fun j hj => ?_) (fun ρ hρ => (b6 _ ρ (by omega)).trans (aS ρ hρ)) b5
          rw [b6 (P + 1) j (by omega), b6 (P + 2) j (by omega), b6 (P + 3) j (by omega)]
          exact aC j hj
        | succ i ih2 =>
          intro k m3 hk w3 f3 a5 a6 aC aS af
          have hkz : k < z := by omega
          have ek : nI z - 1 - nI k = nI (z - 1 - k) := by rw [ez1]; exact nI_sb (by omega) (by omega)
          have f1' := ff k hkz
          have f2' := ff (z - 1 - k) (by omega)
          have lei := (cIn_le (f := (cOut n z r).2.1) (n := n) (z := z) (r := r) (S := (cOut n z r).1) k).2
          refine g_X3_fillEachWithEach_51 (Pl_of hP) ?_
          rw [ez2, ek, nI_clamp (by omega), nI_clamp (by omega), af k hkz, af (z - 1 - k) (by omega), nI_1, nI_1]
          have skip : ¬ ((cOut n z r).2.1 k < n ∧ (cOut n z r).2.1 (z - 1 - k) < n) → AW ad E0 μX3_fillEachWithEach (d + 2) (ciC m P n z) 51 [(0, .ref (ad P)), (1, .int (nI n)), (2, .int (nI z)), (3, .int (nI r)), (4, .int (nI (k + 1)))] [] m3 := fun hn => by
            have e : cIn (cOut n z r).2.1 n z r (k + 1) (cOut n z r).1 = cIn (cOut n z r).2.1 n z r k (cOut n z r).1 := by
              rw [cIn_s]
              unfold cStep
              rw [if_neg hn]
            exact ih2 (k + 1) m3 (by omega) w3 f3 a5 (by rw [e]; exact a6) (by rw [e]; exact aC) aS af
          refine ⟨fun c => absurd ((nI_leI (by omega) (by omega)).mp c) (by omega), fun _ => ⟨nat_in (by omega) (by decide), nat_in (by omega) (by decide), fun c => skip (fun q => ?_), fun c1 => ⟨fun c => skip (fun q => ?_), fun c2 => ?_⟩⟩⟩
          · have := (nI_leI (by omega) (by omega)).mp c; omega
          · have := (nI_leI (by omega) (by omega)).mp c; omega
          · have h1 : (cOut n z r).2.1 k < n := Nat.lt_of_not_le (fun q => c1 ((nI_leI (by omega) (by omega)).mpr q))
            have h2 : (cOut n z r).2.1 (z - 1 - k) < n := Nat.lt_of_not_le (fun q => c2 ((nI_leI (by omega) (by omega)).mpr q))
            refine (e_addG (d := d + 1) hP a6 (by omega)).to ?_
            rintro _ m4 ⟨rfl, e⟩
            subst e
            refine ⟨rfl, ?_⟩
            have e : cIn (cOut n z r).2.1 n z r (k + 1) (cOut n z r).1 = ((cIn (cOut n z r).2.1 n z r k (cOut n z r).1).1 + 1, updN (cIn (cOut n z r).2.1 n z r k (cOut n z r).1).2.1 (cIn (cOut n z r).2.1 n z r k (cOut n z r).1).1 ((cOut n z r).2.1 k), updN (cIn (cOut n z r).2.1 n z r k (cOut n z r).1).2.2.1 (cIn (cOut n z r).2.1 n z r k (cOut n z r).1).1 ((cOut n z r).2.1 (z - 1 - k)), updN (cIn (cOut n z r).2.1 n z r k (cOut n z r).1).2.2.2 (cIn (cOut n z r).2.1 n z r k (cOut n z r).1).1 r) := by
              rw [cIn_s]
              unfold cStep
              rw [if_pos ⟨h1, h2⟩]
            have t1 : (nI ((cOut n z r).2.1 k)).toInt = (cOut n z r).2.1 k := nI_toInt (by omega)
            have t2 : (nI ((cOut n z r).2.1 (z - 1 - k))).toInt = (cOut n z r).2.1 (z - 1 - k) := nI_toInt (by omega)
            refine ih2 (k + 1) _ (by omega) (wP6 hP (wPc hP (wPb hP (wPa hP w3 (by omega) (by omega)) (by omega) (by omega))) (by omega)) (fP0 hP rfl (fP hP rfl (fP hP rfl (fP hP rfl f3 (by decide)) (by decide)) (by decide))) ?_ ?_ ?_ (fun ρ hρ => ?_) (fun j hj => ?_)
            · exact (u_ne (by omega)).trans ((u_ne (by omega)).trans ((u_ne (by omega)).trans ((u_ne (by omega)).trans a5)))
            · rw [e]; exact u_eq
            · rw [e]
              generalize cIn (cOut n z r).2.1 n z r k (cOut n z r).1 = S at aC
              obtain ⟨g, A, B, C⟩ := S
              dsimp only at aC ⊢
              intro j hj
              by_cases hjg : j = g
              · subst hjg
                rw [updN_e, updN_e]
                exact ⟨(u_ne (by omega)).trans ((u_ne (by omega)).trans ((u_ne (by omega)).trans u_eq)), (u_ne (by omega)).trans ((u_ne (by omega)).trans u_eq), (u_ne (by omega)).trans u_eq⟩
              · rw [updN_n hjg, updN_n hjg]
                obtain ⟨b1, b2, b3⟩ := aC j (by omega)
                exact ⟨(u_ne (by omega)).trans ((u_ne (by omega)).trans ((u_ne (by omega)).trans ((u_ne (by omega)).trans b1))), (u_ne (by omega)).trans ((u_ne (by omega)).trans ((u_ne (by omega)).trans ((u_ne (by omega)).trans b2))), (u_ne (by omega)).trans ((u_ne (by omega)).trans ((u_ne (by omega)).trans ((u_ne (by omega)).trans b3)))⟩
            · exact (u_ne (by omega)).trans ((u_ne (by omega)).trans ((u_ne (by omega)).trans ((u_ne (by omega)).trans (aS ρ hρ))))
            · exact (u_ne (by omega)).trans ((u_ne (by omega)).trans ((u_ne (by omega)).trans ((u_ne (by omega)).trans (af j hj))))
      exact IL (z / 2) 0 m2 (by omega) w2 f2 k5 k6 hC2 hS2 hf2
  refine v_X3_fillEachWithEach (d := d + 1) (Pl_of hP) ((e_clearP (Pl_of hP)).to ?_)
  rintro _ m1 ⟨rfl, e⟩
  subst e
  refine ⟨rfl, ?_⟩
  have ez : (if (8 : Int32) < (nI n + (nI n &&& (1 : Int32))) then (8 : Int32) else (nI n + (nI n &&& (1 : Int32)))) = nI z := by
    subst hz
    have h : ∀ n : Fin 9, (if (8 : Int32) < (nI n.val + (nI n.val &&& (1 : Int32))) then (8 : Int32) else (nI n.val + (nI n.val &&& (1 : Int32)))) = nI (n.val + n.val % 2) := by decide +kernel
    exact h ⟨n, by omega⟩
  rw [ez]
  have w1 : WT (uI (uI m P 5 0) P 6 0) := wP6 (v := 0) hP (wP5 (v := 0) hP w (by decide)) (by decide)
  have f1 : Fx (PR P) m (uI (uI m P 5 0) P 6 0) := fP0 hP rfl (fP0 hP rfl Fx.rf)
  have PL : ∀ (i k : Nat) (m1 : Wm), k + i = z → WT m1 → Fx (PR P) m m1 → m1.1 P 5 = nI 0 → m1.1 P 6 = nI 0 → (∀ j, j < k → m1.1 (P + 5) j = nI j) →
      AW ad E0 μX3_fillEachWithEach (d + 2) (ciC m P n z) 17 [(0, .ref (ad P)), (1, .int (nI n)), (2, .int (nI z)), (3, .int (nI k))] [] m1 := by
    intro i
    induction i with
    | zero =>
      intro k m1 hk w1 f1 a5 a6 af
      obtain rfl : k = z := hk
      refine g_X3_fillEachWithEach_17 (Pl_of hP) ⟨fun _ => RL (k - 1) 0 m1 (by omega) w1 f1 a5 a6 (fun j hj => absurd hj (Nat.not_lt_zero j)) (fun ρ hρ => absurd hρ (Nat.not_lt_zero ρ)) af, fun c => absurd (nI_le (Nat.le_refl _) (by omega)) c⟩
    | succ i ih =>
      intro k m1 hk w1 f1 a5 a6 af
      refine g_X3_fillEachWithEach_17 (Pl_of hP) ⟨fun c => absurd ((nI_leI (by omega) (by omega)).mp c) (by omega), fun _ => ⟨nat_in (by omega) (by decide), ?_⟩⟩
      rw [nI_1, nI_clamp (by omega)]
      refine ih (k + 1) _ (by omega) (wt5 w1 (by omega)) (fP hP rfl f1 (by decide)) ((u_ne (by omega)).trans a5) ((u_ne (by omega)).trans a6) (fun j hj => ?_)
      by_cases hjk : j = k
      · rw [hjk]; exact u_eq
      · exact (u_ne (fun q => hjk q.2)).trans (af j (by omega))
  exact PL z 0 _ (by omega) w1 f1 ((u_ne (by omega)).trans u_eq) u_eq (fun j hj => absurd hj (Nat.not_lt_zero j))
theorem e_circleC {Q : Nat} (w : WT m) (hn : m.1 3 3 = nI n) (hn8 : n ≤ 8) (hR : PRF m P Q) : Ct ad μX11_circle (d + 3) [.ref (ad 0)] m (fun r m' => WT m' ∧ Fx (RS [7, 44]) m m' ∧ PRF m' P Q ∧ ((n < 2 ∧ r = some (.int (-1)) ∧ m' = m) ∨ (2 ≤ n ∧ r = some (.int (nI (n + n % 2 - 1))) ∧ m'.1 0 11 = 0 ∧ m'.1 P 5 = nI (n + n % 2 - 1) ∧ m'.1 P 6 = nI (cOut n (n + n % 2) (n + n % 2 - 1)).1.1 ∧ CRel (cOut n (n + n % 2) (n + n % 2 - 1)).1.2.1 (cOut n (n + n % 2) (n + n % 2 - 1)).1.2.2.1 (cOut n (n + n % 2) (n + n % 2 - 1)).1.1 (m'.1 (P + 1)) (m'.1 (P + 2)) (m'.1 (P + 3)) ∧ ∀ ρ, ρ < n + n % 2 - 1 → m'.1 (P + 4) ρ = nI ((cOut n (n + n % 2) (n + n % 2 - 1)).2.2 ρ)))) := by
  have hR0 := hR
  obtain ⟨h9, h10, hPQ⟩ := hR
  have hP : P = 134 ∨ P = 140 := by omega
  refine v_X11_circle (d := d + 2) ?_
  rw [hn]
  refine ⟨fun c => ?_, fun c => ⟨w, Fx.rf, hR0, Or.inl ⟨?_, rfl, rfl⟩⟩⟩
  · have hn2 := (le_l 2 2 rfl (by decide) (by omega)).mp c
    refine ⟨P, h9, Pl_of hP, (e_fill (d := d) hP hn2 hn8 rfl w).to ?_⟩
    rintro _ m1 ⟨rfl, w1, f1, a5, a6, aC, aS⟩
    have r9 : (uI m1 0 11 (0 : Int32)).2.2 0 9 = some P := (f1 0 9 (by unfold PR; omega)).2.2.trans h9
    have r10 : (uI m1 0 11 (0 : Int32)).2.2 0 10 = some Q := (f1 0 10 (by unfold PR; omega)).2.2.trans h10
    have b5 : (uI m1 0 11 (0 : Int32)).1 P 5 = nI (n + n % 2 - 1) := (u_ne (by omega)).trans a5
    refine ⟨rfl, P, r9, Pl_of hP, w1.n rfl, ((Fx.rf (S := RS [7, 44])).tr f1 (PR_7 hP rfl)).i rfl, ⟨r9, r10, hPQ⟩, Or.inr ⟨hn2, by rw [b5], rfl, b5, (u_ne (by omega)).trans a6, fun j hj => ?_, fun ρ hρ => (u_ne (by omega)).trans (aS ρ hρ)⟩⟩
    rw [u_ne (by omega), u_ne (by omega), u_ne (by omega)]
    exact aC j hj
  · exact Nat.lt_of_not_le (fun q => c ((le_l 2 2 rfl (by decide) (by omega)).mpr q))
end CRC
end
section
/-! EACH WITH EACH: THE MODEL -/
def MRel (A B C : Nat → Nat) (g : Nat) (np : Nat → Int32) : Prop := ∀ j, j < g → np (4 * j) = nI (A j) ∧ np (4 * j + 1) = nI (B j) ∧ np (4 * j + 2) = 0 ∧ np (4 * j + 3) = nI (C j)
section CRM
variable {ad : Nat → Nat} {d : Nat} {m : Wm} {n : Nat}
def ciM (m : Wm) (n z : Nat) (r : Option Value) (m' : Wm) : Prop := WT m' ∧ Fx (RS [20, 25, 32, 52, 55]) m m' ∧ ((n < 2 ∧ r = some (.int (-1)) ∧ Fx (RS [20]) m m') ∨ (2 ≤ n ∧ r = some (.int (nI (z - 1))) ∧ m'.1 187 11 = nI (z - 1) ∧ m'.1 187 12 = 0 ∧ m'.1 187 10 = nI (cOut n z (z - 1)).1.1 ∧ MRel (cOut n z (z - 1)).1.2.1 (cOut n z (z - 1)).1.2.2.1 (cOut n z (z - 1)).1.2.2.2 (cOut n z (z - 1)).1.1 (m'.1 194)))
theorem e_circleM (w : WT m) (hn : m.1 187 1 = nI n) (hn8 : n ≤ 8) : Ct ad μX12_circle (d + 2) [.ref (ad 187)] m (ciM m n (n + n % 2)) := by
  have w0 : WT (uI m 187 17 0) := w.n rfl
  have F0 : Fx (RS [20, 25, 32, 52, 55]) m (uI m 187 17 0) := (Fx.rf (S := RS [20, 25, 32, 52, 55]) (m := m)).i (a := 187) (k := 17) rfl
  have es0 : (uI m 187 17 0).1 187 1 = nI n := hn
  refine v_X12_circle (d := d + 1) ?_
  rw [es0]
  refine ⟨fun c => ?_, fun c => ⟨w0, F0, Or.inl ⟨Nat.lt_of_not_le (fun q => c ((le_l 2 2 rfl (by decide) (by omega)).mpr q)), rfl, Fx.rf.i rfl⟩⟩⟩
  have hn2 : 2 ≤ n := (le_l 2 2 rfl (by omega) (by omega)).mp c
  have er : nI n - nI n / 2 * 2 = nI (n % 2) := nI_rem (g := n) (G := 2) (by omega) (by decide) (by decide)
  rw [er, nI_add]
  obtain ⟨z, hz⟩ : ∃ z, n + n % 2 = z := ⟨_, rfl⟩
  rw [hz]
  have z8 : z ≤ 8 := by omega
  have z2 : 2 ≤ z := by omega
  have ez1 : nI z - 1 = nI (z - 1) := nI_sb (b := 1) (by omega) (by omega)
  have ez2 : nI z / 2 = nI (z / 2) := pk_div (a := z) (d := 2) (by omega) (by decide) (by decide)
  have sid : ∀ m1, Fx (RS [20, 25, 32, 52, 55]) m m1 → m1.1 187 1 = nI n := fun m1 f1 => (f1.at (by decide)).trans hn
  have wt203 : ∀ {m1 : Wm} {k v : Nat}, WT m1 → v < z → WT (uI m1 203 k (nI v)) := by
    intro m1 k v w1 hv
    have tv : (nI v).toInt = v := nI_toInt (by omega)
    exact w1.t rfl (by omega) (by omega)
  -- the rounds
  have R : ∀ (i r : Nat) (m1 : Wm), r + i = z - 1 → WT m1 → Fx (RS [20, 25, 32, 52, 55]) m m1 → m1.1 187 10 = nI (cOut n z r).1.1 → MRel (cOut n z r).1.2.1 (cOut n z r).1.2.2.1 (cOut n z r).1.2.2.2 (cOut n z r).1.1 (m1.1 194) → (∀ k, k < z → m1.1 203 k = nI ((cOut n z r).2.1 k)) →
      AW ad E0 μX12_circle (d + 1 + 1) (ciM m n z) 54 [(0, .ref (ad 187)), (1, .int (nI z)), (2, .int (nI r))] [] m1 := by
    intro i
    induction i with
    | zero =>
      intro r m1 hr w1 f1 e10 hM hf
      obtain rfl : r = z - 1 := by omega
      refine g_X12_circle_54 ?_
      rw [ez1]
      exact ⟨fun _ => ⟨(w1.t rfl (by rw [nI_toInt (by omega)]; omega) (by rw [nI_toInt (by omega)]; omega)).n rfl, (f1.i rfl).i rfl, Or.inr ⟨hn2, rfl, rfl, rfl, e10, hM⟩⟩, fun c => absurd ((nI_leI (by omega) (by omega)).mpr (by omega)) c⟩
    | succ i ih =>
      intro r m1 hr w1 f1 e10 hM hf
      have g0 := cOut_le (n := n) (z := z) z8 r
      have ff := cOut_f (n := n) z2 r
      refine g_X12_circle_54 ?_
      rw [ez1]
      refine ⟨fun c => absurd ((nI_leI (by omega) (by omega)).mp c) (by omega), fun _ => ?_⟩
      -- the places move
      have L197 : ∀ (k : Nat) (m2 : Wm), 1 ≤ k → k < z → WT m2 → Fx (RS [20, 25, 32, 52, 55]) m m2 → m2.1 187 10 = nI (cOut n z (r + 1)).1.1 → MRel (cOut n z (r + 1)).1.2.1 (cOut n z (r + 1)).1.2.2.1 (cOut n z (r + 1)).1.2.2.2 (cOut n z (r + 1)).1.1 (m2.1 194) → (∀ j, j ≤ k → m2.1 203 j = nI ((cOut n z r).2.1 j)) → (∀ j, k < j → j < z → m2.1 203 j = nI ((cOut n z r).2.1 (j - 1))) →
          AW ad E0 μX12_circle (d + 1 + 1) (ciM m n z) 197 [(0, .ref (ad 187)), (1, .int (nI z)), (2, .int (nI r)), (3, .int (nI ((cOut n z r).2.1 (z - 1)))), (4, .int (nI k))] [] m2 := by
        intro k
        induction k with
        | zero => intro _ h; omega
        | succ k ih2 =>
          intro m2 h1 hk w2 f2 e2 hM2 r1 r2
          by_cases hk0 : k = 0
          · subst hk0
            refine g_X12_circle_197 ⟨fun _ => ?_, fun c => absurd (by decide) c⟩
            rw [nI_1]
            have e11 : (1 : Int32).toNatClampNeg = 1 := rfl
            rw [e11]
            refine ih (r + 1) _ (by omega) (wt203 w2 (ff _ (by omega))) (f2.i rfl) e2 (fun j hj => ?_) (fun j hj => ?_)
            · rw [u_ne (by omega), u_ne (by omega), u_ne (by omega), u_ne (by omega)]
              exact hM2 j hj
            · show _ = nI (rotN z (cOut n z r).2.1 j)
              unfold rotN
              by_cases hj1 : j = 1
              · rw [hj1, if_neg (by decide), if_pos rfl]
                exact u_eq
              · rw [if_neg hj1]
                refine (u_ne (fun q => hj1 q.2)).trans ?_
                by_cases hj0 : j = 0
                · rw [if_pos hj0, hj0]; exact r1 0 (by omega)
                · rw [if_neg hj0]; exact r2 j (by omega) hj
          · refine g_X12_circle_197 ?_
            rw [nI_pred, nI_dn (by omega), nI_clamp (by omega), nI_clamp (by omega), r1 k (by omega)]
            refine ⟨fun c => absurd ((l_le 1 1 rfl (by omega) (by omega)).mp c) (by omega), fun _ => ⟨nat_in (by omega) (by decide), nat_in (by omega) (by decide), ih2 _ (by omega) (by omega) (wt203 w2 (ff k (by omega))) (f2.i rfl) e2 (fun j hj => ?_) (fun j hj => (u_ne (by omega)).trans (r1 j (by omega))) (fun j hj1 hj2 => ?_)⟩⟩
            · rw [u_ne (by omega), u_ne (by omega), u_ne (by omega), u_ne (by omega)]
              exact hM2 j hj
            · by_cases hjk : j = k + 1
              · rw [hjk, Nat.add_sub_cancel]; exact u_eq
              · exact (u_ne (fun q => hjk q.2)).trans (r2 j (by omega) hj2)
      have IL : ∀ (i k : Nat) (m3 : Wm), k + i = z / 2 → WT m3 → Fx (RS [20, 25, 32, 52, 55]) m m3 → m3.1 187 10 = nI (cIn (cOut n z r).2.1 n z r k (cOut n z r).1).1 → MRel (cIn (cOut n z r).2.1 n z r k (cOut n z r).1).2.1 (cIn (cOut n z r).2.1 n z r k (cOut n z r).1).2.2.1 (cIn (cOut n z r).2.1 n z r k (cOut n z r).1).2.2.2 (cIn (cOut n z r).2.1 n z r k (cOut n z r).1).1 (m3.1 194) → (∀ k, k < z → m3.1 203 k = nI ((cOut n z r).2.1 k)) →
          AW ad E0 μX12_circle (d + 1 + 1) (ciM m n z) 63 [(0, .ref (ad 187)), (1, .int (nI z)), (2, .int (nI r)), (3, .int (nI k))] [] m3 := by
        intro i
        induction i with
        | zero =>
          intro k m3 hk w3 f3 a10 aM af
          obtain rfl : k = z / 2 := by omega
          refine g_X12_circle_63 ?_
          rw [ez2, ez1, nI_clamp (by omega), af (z - 1) (by omega)]
          exact ⟨fun _ => ⟨nat_in (by omega) (by decide), L197 (z - 1) m3 (by omega) (by omega) w3 f3 a10 aM (fun j hj => af j (by omega)) (fun j h1 h2 => absurd h2 (by omega))⟩, fun c => absurd ((nI_leI (by omega) (by omega)).mpr (by omega)) c⟩
        | succ i ih2 =>
          intro k m3 hk w3 f3 a10 aM af
          have hkz : k < z := by omega
          have ek : nI (z - 1) - nI k = nI (z - 1 - k) := nI_sb (by omega) (by omega)
          have f1' := ff k hkz
          have f2' := ff (z - 1 - k) (by omega)
          have lei := (cIn_le (f := (cOut n z r).2.1) (n := n) (z := z) (r := r) (S := (cOut n z r).1) k).2
          have es3 := sid m3 f3
          have t1 : (nI ((cOut n z r).2.1 k)).toInt = (cOut n z r).2.1 k := nI_toInt (by omega)
          have t2 : (nI ((cOut n z r).2.1 (z - 1 - k))).toInt = (cOut n z r).2.1 (z - 1 - k) := nI_toInt (by omega)
          refine g_X12_circle_63 ?_
          rw [ez2, ez1, ek, nI_1, nI_clamp (n := k) (by omega), nI_clamp (n := z - 1 - k) (by omega), af k hkz, af (z - 1 - k) (by omega)]
          have skip : ¬ ((cOut n z r).2.1 k < n ∧ (cOut n z r).2.1 (z - 1 - k) < n) → AW ad E0 μX12_circle (d + 1 + 1) (ciM m n z) 63 [(0, .ref (ad 187)), (1, .int (nI z)), (2, .int (nI r)), (3, .int (nI (k + 1)))] [] m3 := fun hn => by
            have e : cIn (cOut n z r).2.1 n z r (k + 1) (cOut n z r).1 = cIn (cOut n z r).2.1 n z r k (cOut n z r).1 := by
              show cStep _ n z r k _ = _
              unfold cStep
              rw [if_neg hn]
            exact ih2 (k + 1) m3 (by omega) w3 f3 (by rw [e]; exact a10) (by rw [e]; exact aM) af
          refine ⟨fun c => absurd ((nI_leI (by omega) (by omega)).mp c) (by omega), fun _ => ⟨nat_in (by omega) (by decide), nat_in (by omega) (by decide), (e_isSide (d := d) es3 hn8).to ?_⟩⟩
          rintro _ m' ⟨eq, rfl⟩
          obtain rfl := eq.symm
          by_cases h1 : (cOut n z r).2.1 k < n
          · refine ⟨1, by rw [if_pos (by omega)], fun q => absurd q (by decide), fun _ => (e_isSide (d := d) es3 hn8).to ?_⟩
            rintro _ m' ⟨eq, rfl⟩
            obtain rfl := eq.symm
            by_cases h2 : (cOut n z r).2.1 (z - 1 - k) < n
            · refine ⟨1, by rw [if_pos (by omega)], fun _ => ?_, fun q => absurd q (by decide)⟩
              have e : cIn (cOut n z r).2.1 n z r (k + 1) (cOut n z r).1 = ((cIn (cOut n z r).2.1 n z r k (cOut n z r).1).1 + 1, updN (cIn (cOut n z r).2.1 n z r k (cOut n z r).1).2.1 (cIn (cOut n z r).2.1 n z r k (cOut n z r).1).1 ((cOut n z r).2.1 k), updN (cIn (cOut n z r).2.1 n z r k (cOut n z r).1).2.2.1 (cIn (cOut n z r).2.1 n z r k (cOut n z r).1).1 ((cOut n z r).2.1 (z - 1 - k)), updN (cIn (cOut n z r).2.1 n z r k (cOut n z r).1).2.2.2 (cIn (cOut n z r).2.1 n z r k (cOut n z r).1).1 r) := by
                show cStep _ n z r k _ = _
                unfold cStep
                rw [if_pos ⟨h1, h2⟩]
              have ih3 := ih2 (k + 1)
              rw [e] at ih3
              generalize cIn (cOut n z r).2.1 n z r k (cOut n z r).1 = S at aM a10 lei ih3
              obtain ⟨g, A, B, C⟩ := S
              dsimp only at aM a10 lei ih3
              generalize (cOut n z r).2.1 k = va at h1 f1' t1 ih3 ⊢
              generalize (cOut n z r).2.1 (z - 1 - k) = vb at h2 f2' t2 ih3 ⊢
              show vp_in ((4 : Int32) * (m3.1 187 10)) 160 ∧ vp_in (((4 : Int32) * (m3.1 187 10)) + 1) 160 ∧ vp_in (((4 : Int32) * (m3.1 187 10)) + 2) 160 ∧ vp_in (((4 : Int32) * (m3.1 187 10)) + 3) 160 ∧ AW ad E0 μX12_circle (d + 1 + 1) (ciM m n z) 63 [(0, .ref (ad 187)), (1, .int (nI z)), (2, .int (nI r)), (3, .int (nI (k + 1)))] [] (uI (uI (uI (uI (uI m3 194 ((4 : Int32) * (m3.1 187 10)).toNatClampNeg (nI va)) 194 (((4 : Int32) * (m3.1 187 10)) + 1).toNatClampNeg (nI vb)) 194 (((4 : Int32) * (m3.1 187 10)) + 2).toNatClampNeg 0) 194 (((4 : Int32) * (m3.1 187 10)) + 3).toNatClampNeg (nI r)) 187 10 ((m3.1 187 10) + 1))
              rw [a10]
              have tg : (nI g).toInt = (g : Int) := nI_toInt (by omega)
              have l4 : (4 : Int32) * nI g = nI (4 * g) := l_mul 4 4 rfl g
              have W : WT (uI (uI (uI (uI m3 194 ((4 : Int32) * nI g).toNatClampNeg (nI va)) 194 (((4 : Int32) * nI g) + 1).toNatClampNeg (nI vb)) 194 (((4 : Int32) * nI g) + 2).toNatClampNeg 0) 194 (((4 : Int32) * nI g) + 3).toNatClampNeg (nI r)) :=
                (((w3.up0 (x := nI g) (v := nI va) ⟨by omega, by omega⟩ ⟨by omega, by omega⟩).up1 (x := nI g) (v := nI vb) ⟨by omega, by omega⟩ ⟨by omega, by omega⟩).up2 (x := nI g) ⟨by omega, by omega⟩).up3 (x := nI g) ⟨by omega, by omega⟩
              rw [l4, nI_1 (4 * g), add_l 2 2 rfl, add_l 3 3 rfl, nI_clamp (by omega), nI_clamp (by omega), nI_clamp (by omega), nI_clamp (by omega)] at W
              rw [l4, nI_1 (4 * g), add_l 2 2 rfl, add_l 3 3 rfl, nI_clamp (by omega), nI_clamp (by omega), nI_clamp (by omega), nI_clamp (by omega), nI_1 g]
              refine ⟨nat_in (by omega) (by decide), nat_in (by omega) (by decide), nat_in (by omega) (by decide), nat_in (by omega) (by decide), ih3 _ (by omega) (W.t rfl (by rw [nI_toInt (by omega)]; omega) (by rw [nI_toInt (by omega)]; omega)) (((((f3.i rfl).i rfl).i rfl).i rfl).i rfl) rfl ?_ (fun j hj => af j hj)⟩
              intro j hj
              by_cases hjg : j = g
              · subst hjg
                rw [updN_e, updN_e, updN_e]
                exact ⟨(u_ne (by omega)).trans ((u_ne (by omega)).trans ((u_ne (by omega)).trans ((u_ne (by omega)).trans u_eq))), (u_ne (by omega)).trans ((u_ne (by omega)).trans ((u_ne (by omega)).trans u_eq)), (u_ne (by omega)).trans ((u_ne (by omega)).trans u_eq), (u_ne (by omega)).trans u_eq⟩
              · rw [updN_n hjg, updN_n hjg, updN_n hjg]
                obtain ⟨b1, b2, b3, b4⟩ := aM j (by omega)
                exact ⟨(u_ne (by omega)).trans ((u_ne (by omega)).trans ((u_ne (by omega)).trans ((u_ne (by omega)).trans ((u_ne (by omega)).trans b1)))), (u_ne (by omega)).trans ((u_ne (by omega)).trans ((u_ne (by omega)).trans ((u_ne (by omega)).trans ((u_ne (by omega)).trans b2)))), (u_ne (by omega)).trans ((u_ne (by omega)).trans ((u_ne (by omega)).trans ((u_ne (by omega)).trans ((u_ne (by omega)).trans b3)))), (u_ne (by omega)).trans ((u_ne (by omega)).trans ((u_ne (by omega)).trans ((u_ne (by omega)).trans ((u_ne (by omega)).trans b4))))⟩
            · exact ⟨0, by rw [if_neg (by omega)], fun q => absurd rfl q, fun _ => skip (fun q => h2 q.2)⟩
          · exact ⟨0, by rw [if_neg (by omega)], fun _ => skip (fun q => h1 q.1), fun q => absurd rfl q⟩
      exact IL (z / 2) 0 m1 (by omega) w1 f1 e10 hM hf
  have PL : ∀ (i k : Nat) (m1 : Wm), k + i = z → WT m1 → Fx (RS [20, 25, 32, 52, 55]) m m1 → (∀ j, j < k → m1.1 203 j = nI j) →
      AW ad E0 μX12_circle (d + 1 + 1) (ciM m n z) 29 [(0, .ref (ad 187)), (1, .int (nI z)), (2, .int (nI k))] [] m1 := by
    intro i
    induction i with
    | zero =>
      intro k m1 hk w1 f1 af
      obtain rfl : k = z := hk
      exact g_X12_circle_29 ⟨fun _ => R (k - 1) 0 _ (by omega) (w1.t rfl (by decide) (by decide)) (f1.i rfl) rfl (fun j hj => absurd hj (Nat.not_lt_zero j)) (fun j hj => af j hj), fun c => absurd (nI_le (Nat.le_refl _) (by omega)) c⟩
    | succ i ih =>
      intro k m1 hk w1 f1 af
      refine g_X12_circle_29 ⟨fun c => absurd ((nI_leI (by omega) (by omega)).mp c) (by omega), fun _ => ⟨nat_in (by omega) (by decide), ?_⟩⟩
      rw [nI_1, nI_clamp (by omega)]
      refine ih (k + 1) _ (by omega) (wt203 w1 (by omega)) (f1.i rfl) (fun j hj => ?_)
      by_cases hjk : j = k
      · rw [hjk]; exact u_eq
      · exact (u_ne (fun q => hjk q.2)).trans (af j (by omega))
  exact PL z 0 _ (by omega) w0 F0 (fun j hj => absurd hj (Nat.not_lt_zero j))
end CRM
end
section
/-! WHAT IS KEPT: BOTH SIDES -/
/-- the cells from b to b + n -/
def BR (b n a _k : Nat) : Prop := b ≤ a ∧ a ≤ b + n
theorem BR_sub {b n b' n' : Nat} (h1 : b' ≤ b) (h2 : b + n ≤ b' + n') (a k : Nat) (h : BR b n a k) : BR b' n' a k := ⟨by have := h.1; omega, by have := h.2; omega⟩
theorem rg_13 {b : Nat} (k : Nat) (h1 : 173 ≤ b) (h2 : b < 187) : rg b k = 13 := by
  have h : b = 173 ∨ b = 174 ∨ b = 175 ∨ b = 176 ∨ b = 177 ∨ b = 178 ∨ b = 179 ∨ b = 180 ∨ b = 181 ∨ b = 182 ∨ b = 183 ∨ b = 184 ∨ b = 185 ∨ b = 186 := by omega
  rcases h with rfl | rfl | rfl | rfl | rfl | rfl | rfl | rfl | rfl | rfl | rfl | rfl | rfl | rfl <;> rfl
theorem KR_13 {i : Nat} (hi : i < 2) {S : List Nat} (hS : S.elem 13 = true) (a k : Nat) (h : BR (173 + 7 * i) 6 a k) : RS S a k := by
  unfold RS
  rw [rg_13 k (by have := h.1; omega) (by have := h.2; omega)]
  exact hS
theorem Ke_i {i : Nat} (hi : i < 2) : Ke (173 + 7 * i) := Ke_of (by omega)
theorem SS_i {i : Nat} (hi : i < 2) : SS (173 + 7 * i + 1) 13 := by
  have h : i = 0 ∨ i = 1 := by omega
  rcases h with rfl | rfl
  · exact SS_174
  · exact SS_181
section KPC
variable {ad : Nat → Nat} {d : Nat} {m : Wm}
theorem e_copyF {b0 b1 ρ0 ρ1 : Nat} (w : WT m) (hb0 : SS b0 ρ0) (hb1 : SS b1 ρ1) (hd : b1 + 4 < b0 ∨ b0 + 4 < b1) : Ct ad μX8_copy (d + 1) [.ref (ad b0), .ref (ad b1)] m (fun r m' => WT m' ∧ Fx (BR b0 4) m m' ∧ r = none ∧ (∀ k, k < 32 → m'.1 (b0 + 1) k = m.1 (b1 + 1) k) ∧ (∀ j k, 2 ≤ j → j ≤ 4 → k < 8 → m'.1 (b0 + j) k = m.1 (b1 + j) k) ∧ m'.1 b0 4 = m.1 b1 4) := by
  have h := hb0.2
  refine v_X8_copy hb0.1 hb1.1 ⟨by decide, by decide, by decide, by decide, by decide, by decide, by decide, by decide, by decide, by decide, by decide, by decide, by decide, by decide, by decide, by decide, by decide, by decide, by decide, by decide, ?_⟩
  refine ⟨((((w.c (fun k => (h 1 k (by decide)).2)).c (fun k => (h 2 k (by decide)).2)).c (fun k => (h 3 k (by decide)).2)).c (fun k => (h 4 k (by decide)).2)).s0 h, ((((Fx.rf.c (fun k => ⟨by omega, by omega⟩)).c (fun k => ⟨by omega, by omega⟩)).c (fun k => ⟨by omega, by omega⟩)).c (fun k => ⟨by omega, by omega⟩)).i ⟨by omega, by omega⟩, rfl, fun k hk => ?_, fun j k h2 h4 hk => ?_, ?_⟩
  · exact (u_ne (by omega)).trans ((c_ne (by omega)).trans ((c_ne (by omega)).trans ((c_ne (by omega)).trans (c_at rfl rfl hk))))
  · have hj : j = 2 ∨ j = 3 ∨ j = 4 := by omega
    rcases hj with rfl | rfl | rfl
    · exact (u_ne (by omega)).trans ((c_ne (by omega)).trans ((c_ne (by omega)).trans ((c_at rfl rfl hk).trans (c_ne (by omega)))))
    · exact (u_ne (by omega)).trans ((c_ne (by omega)).trans ((c_at rfl rfl hk).trans ((c_ne (by omega)).trans (c_ne (by omega)))))
    · exact (u_ne (by omega)).trans ((c_at rfl rfl hk).trans ((c_ne (by omega)).trans ((c_ne (by omega)).trans (c_ne (by omega)))))
  · exact u_eq.trans ((c_ne (by omega)).trans ((c_ne (by omega)).trans ((c_ne (by omega)).trans (c_ne (by omega)))))
/-- a number 0 or 1 -/
theorem two_of {x : Int32} (h0 : 0 ≤ x.toInt) (h2 : x.toInt < 2) : ∃ i : Nat, i < 2 ∧ x = nI i := by
  obtain ⟨j, hj, rfl⟩ := zn_of h0
  rw [nI_toInt hj] at h2
  exact ⟨j, by omega, rfl⟩
def kpC (m : Wm) (i : Nat) (m' : Wm) : Prop := WT m' ∧ Fx (BR (173 + 7 * i) 6) m m' ∧ (∀ k, k < 32 → m'.1 (173 + 7 * i + 2) k = m.1 22 k) ∧ (∀ j k, 2 ≤ j → j ≤ 4 → k < 8 → m'.1 (173 + 7 * i + 1 + j) k = m.1 (21 + j) k) ∧ m'.1 (173 + 7 * i + 1) 4 = m.1 21 4 ∧ m'.1 (173 + 7 * i) 2 = m.1 3 5 ∧ (∀ k, k < 5 → m'.1 (173 + 7 * i + 6) k = m.1 4 k) ∧ m'.1 (173 + 7 * i) 3 = m.1 0 11 ∧ m'.1 (173 + 7 * i) 4 = 1
theorem wK {i : Nat} (hi : i < 2) {m : Wm} (w : WT m) {k : Nat} {v : Int32} : WT (uI m (173 + 7 * i) k v) := by
  have h : i = 0 ∨ i = 1 := by omega
  rcases h with rfl | rfl
  · exact w.n rfl
  · exact w.n rfl
theorem wKc {i : Nat} (hi : i < 2) {m : Wm} (w : WT m) {a0 s e n : Nat} : WT (uC m a0 (173 + 7 * i + 6) s e n) := by
  have h : i = 0 ∨ i = 1 := by omega
  rcases h with rfl | rfl
  · exact w.c (fun _ => rfl)
  · exact w.c (fun _ => rfl)
theorem e_keepC {x : Int32} (w : WT m) : Ct ad μX11_keep (d + 3) [.ref (ad 0), .int x] m (fun r m' => (∃ i, i < 2 ∧ x = nI i ∧ r = some (.int 1) ∧ kpC m i m') ∨ (¬ (0 ≤ x.toInt ∧ x.toInt < 2) ∧ r = some (.int 0) ∧ m' = m)) := by
  refine v_X11_keep (d := d + 2) ⟨fun c => Or.inr ⟨?_, rfl, rfl⟩, fun c => ⟨fun c2 => ?_, fun c2 => Or.inr ⟨?_, rfl, rfl⟩⟩⟩
  · have := y_ltr (n := 0) rfl c; omega
  · have h0 := y_nltr (n := 0) rfl c
    have h2 := y_ltr (n := 2) rfl c2
    obtain ⟨i, hi, rfl⟩ := two_of h0 h2
    rw [nI_clamp (by omega)]
    refine ⟨nat_in hi (by decide), 173 + 7 * i, w.keepx hi, Ke_i hi, v_X0_store (d := d + 1) (Ke_i hi) St_21 ((e_copyF (d := d) w (SS_i hi) SS_21 (by omega)).to ?_)⟩
    rintro _ m1 ⟨w1, f1, rfl, k1, k2, k3⟩
    have f1' : Fx (BR (173 + 7 * i) 6) m m1 := (Fx.rf (S := BR (173 + 7 * i) 6)).tr f1 (BR_sub (by omega) (by omega))
    refine ⟨rfl, by decide, by decide, by decide, by decide, by decide, rfl, Or.inl ⟨i, hi, rfl, rfl, wK hi (wK hi (wKc hi (wK hi w1))), (((f1'.i ⟨by omega, by omega⟩).c (fun k => ⟨by omega, by omega⟩)).i ⟨by omega, by omega⟩).i ⟨by omega, by omega⟩, fun k hk => ?_, fun j k a1 a2 hk => ?_, ?_, ?_, fun k hk => ?_, ?_, u_eq⟩⟩
    · exact (u_ne (by omega)).trans ((u_ne (by omega)).trans ((c_ne (by omega)).trans ((u_ne (by omega)).trans (k1 k hk))))
    · exact (u_ne (by omega)).trans ((u_ne (by omega)).trans ((c_ne (by omega)).trans ((u_ne (by omega)).trans (k2 j k a1 a2 hk))))
    · exact (u_ne (by omega)).trans ((u_ne (by omega)).trans ((c_ne (by omega)).trans ((u_ne (by omega)).trans k3)))
    · refine (u_ne (by omega)).trans ((u_ne (by omega)).trans ((c_ne (by omega)).trans (u_eq.trans ?_)))
      exact f1.at (by unfold BR; omega)
    · refine (u_ne (by omega)).trans ((u_ne (by omega)).trans ((c_at rfl rfl hk).trans ((u_ne (by omega)).trans ?_)))
      exact f1.at (by unfold BR; omega)
    · exact (u_ne (by omega)).trans u_eq
  · have := y_nltr (n := 2) rfl c2; omega
def agC (m : Wm) (i P : Nat) (m' : Wm) : Prop := WT m' ∧ Fx (RS [4, 42, 43, 44, 53]) m m' ∧ (∀ k, k < 32 → m'.1 22 k = m.1 (173 + 7 * i + 2) k) ∧ (∀ j k, 2 ≤ j → j ≤ 4 → k < 8 → m'.1 (21 + j) k = m.1 (173 + 7 * i + 1 + j) k) ∧ m'.1 21 4 = m.1 (173 + 7 * i + 1) 4 ∧ m'.1 3 5 = m.1 (173 + 7 * i) 2 ∧ (∀ k, k < 5 → m'.1 4 k = m.1 (173 + 7 * i + 6) k) ∧ m'.1 31 1 = 0 ∧
  m'.1 0 11 = if (m.1 P 5).toInt = 0 then 0 else m.1 (173 + 7 * i) 3 - m.1 (173 + 7 * i) 3 / m.1 P 5 * m.1 P 5
theorem e_againC {x : Int32} {P : Nat} (w : WT m) (hP : m.2.2 0 9 = some P) : Ct ad μX11_again (d + 3) [.ref (ad 0), .int x] m (fun r m' => (∃ i, i < 2 ∧ x = nI i ∧ m.1 (173 + 7 * i) 4 ≠ 0 ∧ r = some (.int 1) ∧ agC m i P m') ∨ ((∀ i, i < 2 → x = nI i → m.1 (173 + 7 * i) 4 = 0) ∧ r = some (.int 0) ∧ m' = m)) := by
  have hPP : P = 134 ∨ P = 140 := by
    obtain ⟨r, h1, h2⟩ := w.r09
    rw [hP] at h1
    cases h1
    exact h2
  refine v_X11_again (d := d + 2) ⟨fun c => Or.inr ⟨fun i hi hx => ?_, rfl, rfl⟩, fun c => ⟨fun c2 => Or.inr ⟨fun i hi hx => ?_, rfl, rfl⟩, fun c2 => ?_⟩⟩
  · have := y_ltr (n := 0) rfl c
    rw [hx, nI_toInt (by omega)] at this
    omega
  · have := y_lel (n := 2) rfl c2
    rw [hx, nI_toInt (by omega)] at this
    omega
  · have h0 := y_nltr (n := 0) rfl c
    have h2 := y_nlel (n := 2) rfl c2
    obtain ⟨i, hi, rfl⟩ := two_of h0 h2
    rw [nI_clamp (by omega)]
    refine ⟨nat_in hi (by decide), 173 + 7 * i, w.keepx hi, Ke_i hi, fun ht => ?_, fun ht => Or.inr ⟨fun i' hi' hx => ?_, rfl, rfl⟩⟩
    · refine ⟨nat_in hi (by decide), 173 + 7 * i, w.keepx hi, Ke_i hi, v_X0_restore (d := d + 1) (Ke_i hi) St_21 ((e_copyF (d := d) w SS_21 (SS_i hi) (by omega)).to ?_)⟩
      rintro _ m1 ⟨w1, f1, rfl, k1, k2, k3⟩
      refine ⟨rfl, by decide, by decide, by decide, by decide, by decide, rfl, ?_⟩
      have f1' : Fx (RS [4, 42, 43, 44, 53]) m m1 := (Fx.rf (S := RS [4, 42, 43, 44, 53])).tr f1 (fun a k h => by
        have : a = 21 ∨ a = 22 ∨ a = 23 ∨ a = 24 ∨ a = 25 := by have := h.1; have := h.2; omega
        rcases this with rfl | rfl | rfl | rfl | rfl <;> rfl)
      have w2 : WT (uC (uI m1 3 5 (m1.1 (173 + 7 * i) 2)) (173 + 7 * i + 6) 4 (0 : Int32).toNatClampNeg (0 : Int32).toNatClampNeg (5 : Int32).toNatClampNeg) := (w1.n rfl).c (fun _ => rfl)
      have f2 : Fx (RS [4, 42, 43, 44, 53]) m (uC (uI m1 3 5 (m1.1 (173 + 7 * i) 2)) (173 + 7 * i + 6) 4 (0 : Int32).toNatClampNeg (0 : Int32).toNatClampNeg (5 : Int32).toNatClampNeg) := (f1'.i rfl).c (fun _ => rfl)
      have j22 : ∀ k, k < 32 → (uC (uI m1 3 5 (m1.1 (173 + 7 * i) 2)) (173 + 7 * i + 6) 4 (0 : Int32).toNatClampNeg (0 : Int32).toNatClampNeg (5 : Int32).toNatClampNeg).1 22 k = m.1 (173 + 7 * i + 2) k := fun k hk => (c_ne (by omega)).trans ((u_ne (by omega)).trans (k1 k hk))
      have j23 : ∀ j k, 2 ≤ j → j ≤ 4 → k < 8 → (uC (uI m1 3 5 (m1.1 (173 + 7 * i) 2)) (173 + 7 * i + 6) 4 (0 : Int32).toNatClampNeg (0 : Int32).toNatClampNeg (5 : Int32).toNatClampNeg).1 (21 + j) k = m.1 (173 + 7 * i + 1 + j) k := fun j k a1 a2 hk => (c_ne (by omega)).trans ((u_ne (by omega)).trans (k2 j k a1 a2 hk))
      have j21 : (uC (uI m1 3 5 (m1.1 (173 + 7 * i) 2)) (173 + 7 * i + 6) 4 (0 : Int32).toNatClampNeg (0 : Int32).toNatClampNeg (5 : Int32).toNatClampNeg).1 21 4 = m.1 (173 + 7 * i + 1) 4 := (c_ne (by omega)).trans ((u_ne (by omega)).trans k3)
      have j35 : (uC (uI m1 3 5 (m1.1 (173 + 7 * i) 2)) (173 + 7 * i + 6) 4 (0 : Int32).toNatClampNeg (0 : Int32).toNatClampNeg (5 : Int32).toNatClampNeg).1 3 5 = m.1 (173 + 7 * i) 2 := (c_ne (by omega)).trans (u_eq.trans (f1.at (by unfold BR; omega)))
      have j4 : ∀ k, k < 5 → (uC (uI m1 3 5 (m1.1 (173 + 7 * i) 2)) (173 + 7 * i + 6) 4 (0 : Int32).toNatClampNeg (0 : Int32).toNatClampNeg (5 : Int32).toNatClampNeg).1 4 k = m.1 (173 + 7 * i + 6) k := fun k hk => (c_at rfl rfl hk).trans ((u_ne (by omega)).trans (f1.at (by unfold BR; omega)))
      have jr : (uC (uI m1 3 5 (m1.1 (173 + 7 * i) 2)) (173 + 7 * i + 6) 4 (0 : Int32).toNatClampNeg (0 : Int32).toNatClampNeg (5 : Int32).toNatClampNeg).2.2 0 9 = some P := (f1 0 9 (by unfold BR; omega)).2.2.trans hP
      have jP : (uC (uI m1 3 5 (m1.1 (173 + 7 * i) 2)) (173 + 7 * i + 6) 4 (0 : Int32).toNatClampNeg (0 : Int32).toNatClampNeg (5 : Int32).toNatClampNeg).1 P 5 = m.1 P 5 := (c_ne (by omega)).trans ((u_ne (by omega)).trans (f1.at (by unfold BR; omega)))
      have jK : (uC (uI m1 3 5 (m1.1 (173 + 7 * i) 2)) (173 + 7 * i + 6) 4 (0 : Int32).toNatClampNeg (0 : Int32).toNatClampNeg (5 : Int32).toNatClampNeg).1 (173 + 7 * i) 3 = m.1 (173 + 7 * i) 3 := (c_ne (by omega)).trans ((u_ne (by omega)).trans (f1.at (by unfold BR; omega)))
      generalize uC (uI m1 3 5 (m1.1 (173 + 7 * i) 2)) (173 + 7 * i + 6) 4 (0 : Int32).toNatClampNeg (0 : Int32).toNatClampNeg (5 : Int32).toNatClampNeg = m3 at w2 f2 j22 j23 j21 j35 j4 jr jP jK ⊢
      have tP := w2.pl (r := P) (k := 5) hPP rfl rfl
      rw [jP] at tP
      have fin : ∀ s0, s0 = (if (m.1 P 5).toInt = 0 then 0 else m.1 (173 + 7 * i) 3 - m.1 (173 + 7 * i) 3 / m.1 P 5 * m.1 P 5) → AW ad E0 μX11_again (d + 3) (fun r m' => (∃ i', i' < 2 ∧ nI i = nI i' ∧ m.1 (173 + 7 * i') 4 ≠ 0 ∧ r = some (.int 1) ∧ agC m i' P m') ∨ ((∀ i', i' < 2 → nI i = nI i' → m.1 (173 + 7 * i') 4 = 0) ∧ r = some (.int 0) ∧ m' = m)) 76 [(0, .ref (ad 0))] [.int s0, .ref (ad 0)] m3 := fun s0 hs0 =>
        g_X11_again_76 (Or.inl ⟨i, hi, rfl, ht, rfl, (w2.n rfl).t rfl (by decide) (by decide), (f2.i rfl).i rfl, j22, fun j k a1 a2 hk => (u_ne (by omega)).trans ((u_ne (by omega)).trans (j23 j k a1 a2 hk)), j21, j35, j4, rfl, hs0⟩)
      refine ⟨P, jr, Pl_of hPP, ?_⟩
      rw [jP]
      refine ⟨fun c0 => fin 0 ?_, fun c0 => ⟨nat_in hi (by decide), 173 + 7 * i, w2.keepx hi, Ke_i hi, P, jr, Pl_of hPP, ?_⟩⟩
      · have := y_ler (n := 0) rfl c0
        rw [if_pos (by omega)]
      · have c0' := y_nler (n := 0) rfl c0
        rw [jP, jK]
        exact ⟨fun z => by rw [z] at c0'; exact absurd c0' (by decide), fin _ (by rw [if_neg (by omega)])⟩
    · have : i' = i := by
        have := (nI_eq (a := i) (b := i') (by omega) (by omega)).mp hx
        omega
      rw [this]; exact ht
end KPC
end
