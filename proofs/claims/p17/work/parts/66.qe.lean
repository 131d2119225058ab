/-! EACH WITH EACH -/
def rotN (z : Nat) (f : Nat → Nat) : Nat → Nat := fun k => if k = 0 then f 0 else if k = 1 then f (z - 1) else f (k - 1)
/-- games, the one, the other, its round -/
abbrev CrS : Type := Nat × (Nat → Nat) × (Nat → Nat) × (Nat → Nat)
def cStep (f : Nat → Nat) (n z r k : Nat) (S : CrS) : CrS := if f k < n ∧ f (z - 1 - k) < n then (S.1 + 1, updN S.2.1 S.1 (f k), updN S.2.2.1 S.1 (f (z - 1 - k)), updN S.2.2.2 S.1 r) else S
def cIn (f : Nat → Nat) (n z r : Nat) : Nat → CrS → CrS
  | 0, S => S
  | k + 1, S => cStep f n z r k (cIn f n z r k S)
theorem cIn_s {f : Nat → Nat} {n z r k : Nat} {S : CrS} : cIn f n z r (k + 1) S = cStep f n z r k (cIn f n z r k S) := rfl
def cOut (n z : Nat) : Nat → CrS × (Nat → Nat) × (Nat → Nat)
  | 0 => ((0, (fun _ => 0), (fun _ => 0), (fun _ => 0)), (fun k => k), (fun _ => 0))
  | r + 1 => (cIn (cOut n z r).2.1 n z r (z / 2) (cOut n z r).1, rotN z (cOut n z r).2.1, updN (cOut n z r).2.2 r (cOut n z r).1.1)
theorem cIn_le {f : Nat → Nat} {n z r : Nat} {S : CrS} : ∀ k, S.1 ≤ (cIn f n z r k S).1 ∧ (cIn f n z r k S).1 ≤ S.1 + k := by
  intro k
  induction k with
  | zero => exact ⟨Nat.le_refl _, Nat.le_refl _⟩
  | succ k ih =>
    show S.1 ≤ (cStep f n z r k (cIn f n z r k S)).1 ∧ (cStep f n z r k (cIn f n z r k S)).1 ≤ S.1 + (k + 1)
    unfold cStep
    by_cases h : f k < n ∧ f (z - 1 - k) < n
    · rw [if_pos h]; dsimp only; omega
    · rw [if_neg h]; omega
theorem cOut_le {n z : Nat} (hz : z ≤ 8) : ∀ r, (cOut n z r).1.1 ≤ 4 * r := by
  intro r
  induction r with
  | zero => exact Nat.le_refl _
  | succ r ih =>
    have := (cIn_le (f := (cOut n z r).2.1) (n := n) (z := z) (r := r) (S := (cOut n z r).1) (z / 2)).2
    show (cIn (cOut n z r).2.1 n z r (z / 2) (cOut n z r).1).1 ≤ 4 * (r + 1)
    omega
theorem cOut_f {n z : Nat} (hz : 2 ≤ z) : ∀ r k, k < z → (cOut n z r).2.1 k < z := by
  intro r
  induction r with
  | zero => intro k hk; exact hk
  | succ r ih =>
    intro k hk
    show rotN z (cOut n z r).2.1 k < z
    unfold rotN
    by_cases h0 : k = 0
    · rw [if_pos h0]; exact ih 0 (by omega)
    · rw [if_neg h0]
      by_cases h1 : k = 1
      · rw [if_pos h1]; exact ih (z - 1) (by omega)
      · rw [if_neg h1]; exact ih (k - 1) (by omega)
theorem cOut_inj {n z : Nat} (hz : 2 ≤ z) : ∀ r a b, a < z → b < z → (cOut n z r).2.1 a = (cOut n z r).2.1 b → a = b := by
  intro r
  induction r with
  | zero => intro a b _ _ h; exact h
  | succ r ih =>
    intro a b ha hb h
    have h' : rotN z (cOut n z r).2.1 a = rotN z (cOut n z r).2.1 b := h
    unfold rotN at h'
    by_cases a0 : a = 0
    · by_cases b0 : b = 0
      · omega
      · by_cases b1 : b = 1
        · rw [if_pos a0, if_neg b0, if_pos b1] at h'
          have := ih 0 (z - 1) (by omega) (by omega) h'; omega
        · rw [if_pos a0, if_neg b0, if_neg b1] at h'
          have := ih 0 (b - 1) (by omega) (by omega) h'; omega
    · by_cases a1 : a = 1
      · by_cases b0 : b = 0
        · rw [if_neg a0, if_pos a1, if_pos b0] at h'
          have := ih (z - 1) 0 (by omega) (by omega) h'; omega
        · by_cases b1 : b = 1
          · omega
          · rw [if_neg a0, if_pos a1, if_neg b0, if_neg b1] at h'
            have := ih (z - 1) (b - 1) (by omega) (by omega) h'; omega
      · by_cases b0 : b = 0
        · rw [if_neg a0, if_neg a1, if_pos b0] at h'
          have := ih (a - 1) 0 (by omega) (by omega) h'; omega
        · by_cases b1 : b = 1
          · rw [if_neg a0, if_neg a1, if_neg b0, if_pos b1] at h'
            have := ih (a - 1) (z - 1) (by omega) (by omega) h'; omega
          · rw [if_neg a0, if_neg a1, if_neg b0, if_neg b1] at h'
            have := ih (a - 1) (b - 1) (by omega) (by omega) h'; omega
/-- a plan in its rounds -/
def OG (n R g : Nat) (A B C T : Nat → Nat) : Prop := (∀ j, j < g → A j < n ∧ B j < n ∧ A j ≠ B j ∧ C j < R ∧ T (C j) ≤ j ∧ (C j + 1 < R → j < T (C j + 1))) ∧ (∀ ρ, ρ < R → T ρ ≤ g ∧ (ρ + 1 < R → T ρ ≤ T (ρ + 1))) ∧ (0 < R → T 0 = 0) ∧ (R = 0 → g = 0)
theorem OG.opn {n R g : Nat} {A B C T : Nat → Nat} (h : OG n R g A B C T) : OG n (R + 1) g A B C (updN T R g) := by
  obtain ⟨h1, h2, h3, h4⟩ := h
  refine ⟨fun j hj => ?_, fun ρ hρ => ?_, fun _ => ?_, fun z => by omega⟩
  · obtain ⟨a, b, c, e, f, g'⟩ := h1 j hj
    refine ⟨a, b, c, by omega, ?_, fun hc => ?_⟩
    · rw [updN_n (by omega)]; exact f
    · by_cases q : C j + 1 = R
      · rw [q, updN_e]; exact hj
      · rw [updN_n q]; exact g' (by omega)
  · by_cases q : ρ = R
    · subst q; rw [updN_e]; exact ⟨Nat.le_refl _, fun z => by omega⟩
    · obtain ⟨a, b⟩ := h2 ρ (by omega)
      rw [updN_n q]
      refine ⟨a, fun hc => ?_⟩
      by_cases q2 : ρ + 1 = R
      · rw [q2, updN_e]; exact a
      · rw [updN_n q2]; exact b (by omega)
  · by_cases q : R = 0
    · subst q; rw [updN_e]; exact h4 rfl
    · rw [updN_n (by omega)]; exact h3 (by omega)
theorem OG.add {n r g : Nat} {A B C T : Nat → Nat} {a b : Nat} (h : OG n (r + 1) g A B C T) (ha : a < n) (hb : b < n) (hab : a ≠ b) : OG n (r + 1) (g + 1) (updN A g a) (updN B g b) (updN C g r) T := by
  obtain ⟨h1, h2, h3, h4⟩ := h
  refine ⟨fun j hj => ?_, fun ρ hρ => ?_, h3, fun z => by omega⟩
  · by_cases q : j = g
    · subst q
      rw [updN_e, updN_e, updN_e]
      exact ⟨ha, hb, hab, by omega, (h2 r (by omega)).1, fun z => by omega⟩
    · rw [updN_n q, updN_n q, updN_n q]
      exact h1 j (by omega)
  · obtain ⟨a, b⟩ := h2 ρ hρ
    exact ⟨by omega, b⟩
theorem cIn_og {f : Nat → Nat} {n z r : Nat} {S : CrS} {T : Nat → Nat} (hi : ∀ a b, a < z → b < z → f a = f b → a = b) (h : OG n (r + 1) S.1 S.2.1 S.2.2.1 S.2.2.2 T) : ∀ k, k ≤ z / 2 → OG n (r + 1) (cIn f n z r k S).1 (cIn f n z r k S).2.1 (cIn f n z r k S).2.2.1 (cIn f n z r k S).2.2.2 T := by
  intro k
  induction k with
  | zero => intro _; exact h
  | succ k ih =>
    intro hk
    have h0 := ih (by omega)
    show OG n (r + 1) (cStep f n z r k (cIn f n z r k S)).1 (cStep f n z r k (cIn f n z r k S)).2.1 (cStep f n z r k (cIn f n z r k S)).2.2.1 (cStep f n z r k (cIn f n z r k S)).2.2.2 T
    generalize cIn f n z r k S = S2 at h0 ⊢
    unfold cStep
    by_cases c : f k < n ∧ f (z - 1 - k) < n
    · rw [if_pos c]
      exact h0.add c.1 c.2 (fun q => by have := hi k (z - 1 - k) (by omega) (by omega) q; omega)
    · rw [if_neg c]; exact h0
theorem cOut_og {n z : Nat} (hz : 2 ≤ z) : ∀ r, OG n r (cOut n z r).1.1 (cOut n z r).1.2.1 (cOut n z r).1.2.2.1 (cOut n z r).1.2.2.2 (cOut n z r).2.2 := by
  intro r
  induction r with
  | zero => exact ⟨fun j hj => absurd hj (Nat.not_lt_zero j), fun ρ hρ => absurd hρ (Nat.not_lt_zero ρ), fun z => absurd z (Nat.lt_irrefl 0), fun _ => rfl⟩
  | succ r ih => exact cIn_og (cOut_inj hz r) ih.opn (z / 2) (Nat.le_refl _)
def CRel (A B : Nat → Nat) (g : Nat) (fi se th : Nat → Int32) : Prop := ∀ j, j < g → fi j = nI (A j) ∧ se j = nI (B j) ∧ th j = 0
section CRC
variable {ad : Nat → Nat} {d : Nat} {m m0 : Wm} {P n z : Nat}
theorem e_turn (hP : P = 134 ∨ P = 140) (hz : 2 ≤ z) (hz8 : z ≤ 8) {f : Nat → Nat} (w : WT m) (fx : Fx (PR P) m0 m) (hf : ∀ k, k < z → f k < z) (h : ∀ k, k < z → m.1 (P + 5) k = nI (f k)) : Ct ad μX3_turnPlaces d [.ref (ad P), .int (nI z)] m (fun r m' => r = none ∧ WT m' ∧ Fx (PR P) m0 m' ∧ (∀ k, k < z → m'.1 (P + 5) k = nI (rotN z f k)) ∧ ∀ b k, b ≠ P + 5 → m'.1 b k = m.1 b k) := by
  have e1 : nI z - 1 = nI (z - 1) := nI_sb (b := 1) (by omega) (by omega)
  have wt5 : ∀ {m1 : Wm} {k : Nat} {v : Nat}, WT m1 → v < z → WT (uI m1 (P + 5) k (nI v)) := by
    intro m1 k v w1 hv
    have tv : (nI v).toInt = v := nI_toInt (by omega)
    rcases hP with rfl | rfl
    · exact w1.t rfl (by omega) (by omega)
    · exact w1.t rfl (by omega) (by omega)
  have L : ∀ (k : Nat) (m1 : Wm), 1 ≤ k → k < z → WT m1 → Fx (PR P) m0 m1 → (∀ j, j ≤ k → m1.1 (P + 5) j = nI (f j)) → (∀ j, k < j → j < z → m1.1 (P + 5) j = nI (f (j - 1))) → (∀ b k, b ≠ P + 5 → m1.1 b k = m.1 b k) →
      AW ad E0 μX3_turnPlaces d (fun r m' => r = none ∧ WT m' ∧ Fx (PR P) m0 m' ∧ (∀ k, k < z → m'.1 (P + 5) k = nI (rotN z f k)) ∧ ∀ b k, b ≠ P + 5 → m'.1 b k = m.1 b k) 13 [(0, .ref (ad P)), (2, .int (nI (f (z - 1)))), (3, .int (nI k))] [] m1 := by
    intro k
    induction k with
    | zero => intro _ h; omega
    | succ k ih =>
      intro m1 h1 hk w1 f1 r1 r2 r3
      by_cases hk0 : k = 0
      · subst hk0
        refine g_X3_turnPlaces_13 (Pl_of hP) ⟨fun _ => ⟨rfl, wt5 w1 (hf _ (by omega)), fP hP rfl f1 (by decide), fun j hj => ?_, fun b j hb => (u_ne (fun q => hb q.1)).trans (r3 b j hb)⟩, fun c => absurd (by decide) c⟩
        unfold rotN
        have e11 : (1 : Int32).toNatClampNeg = 1 := rfl
        rw [e11]
        by_cases hj1 : j = 1
        · rw [hj1, if_neg (by decide), if_pos rfl]
          exact u_eq
        · rw [if_neg hj1]
          refine (u_ne (fun q => hj1 q.2)).trans ?_
          by_cases hj0 : j = 0
          · rw [if_pos hj0, hj0]; exact r1 0 (by omega)
          · rw [if_neg hj0]; exact r2 j (by omega) hj
      · refine g_X3_turnPlaces_13 (Pl_of hP) ⟨fun c => absurd ((l_le 1 1 rfl (by decide) (by omega)).mp c) (by omega), fun _ => ?_⟩
        rw [nI_pred, nI_dn (by omega), nI_clamp (by omega), nI_clamp (by omega), r1 k (by omega)]
        refine ⟨nat_in (by omega) (by decide), nat_in (by omega) (by decide), ih _ (by omega) (by omega) (wt5 w1 (hf k (by omega))) (fP hP rfl f1 (by decide)) (fun j hj => (u_ne (by omega)).trans (r1 j (by omega))) (fun j hj1 hj2 => ?_) (fun b j hb => (u_ne (fun q => hb q.1)).trans (r3 b j hb))⟩
        by_cases hjk : j = k + 1
        · rw [hjk, Nat.add_sub_cancel]; exact u_eq
        · exact (u_ne (fun q => hjk q.2)).trans (r2 j (by omega) hj2)
  refine v_X3_turnPlaces (Pl_of hP) ?_
  rw [e1, nI_clamp (by omega), h (z - 1) (by omega)]
  exact ⟨nat_in (by omega) (by decide), L (z - 1) m (by omega) (by omega) w fx (fun j hj => h j (by omega)) (fun j h1 h2 => absurd h2 (by omega)) (fun _ _ _ => rfl)⟩
def ciC (m0 : Wm) (P n z : Nat) (r : Option Value) (m' : Wm) : Prop := r = none ∧ WT m' ∧ Fx (PR P) m0 m' ∧ m'.1 P 5 = nI (z - 1) ∧ m'.1 P 6 = nI (cOut n z (z - 1)).1.1 ∧ CRel (cOut n z (z - 1)).1.2.1 (cOut n z (z - 1)).1.2.2.1 (cOut n z (z - 1)).1.1 (m'.1 (P + 1)) (m'.1 (P + 2)) (m'.1 (P + 3)) ∧ ∀ ρ, ρ < z - 1 → m'.1 (P + 4) ρ = nI ((cOut n z (z - 1)).2.2 ρ)
theorem e_fill (hP : P = 134 ∨ P = 140) (hn2 : 2 ≤ n) (hn8 : n ≤ 8) (hz : z = n + n % 2) (w : WT m) : Ct ad μX3_fillEachWithEach (d + 2) [.ref (ad P), .int (nI n)] m (ciC m P n z) := by
  have z8 : z ≤ 8 := by omega
  have z2 : 2 ≤ z := by omega
  have ez1 : nI z - 1 = nI (z - 1) := nI_sb (b := 1) (by omega) (by omega)
  have ez2 : nI z / 2 = nI (z / 2) := pk_div (a := z) (d := 2) (by omega) (by decide) (by decide)
  have wt5 : ∀ {m1 : Wm} {k : Nat} {v : Nat}, WT m1 → v < z → WT (uI m1 (P + 5) k (nI v)) := by
    intro m1 k v w1 hv
    have tv : (nI v).toInt = v := nI_toInt (by omega)
    rcases hP with rfl | rfl
    · exact w1.t rfl (by omega) (by omega)
    · exact w1.t rfl (by omega) (by omega)
  -- the rounds
  have RL : ∀ (i r : Nat) (m1 : Wm), r + i = z - 1 → WT m1 → Fx (PR P) m m1 → m1.1 P 5 = nI r → m1.1 P 6 = nI (cOut n z r).1.1 → CRel (cOut n z r).1.2.1 (cOut n z r).1.2.2.1 (cOut n z r).1.1 (m1.1 (P + 1)) (m1.1 (P + 2)) (m1.1 (P + 3)) → (∀ ρ, ρ < r → m1.1 (P + 4) ρ = nI ((cOut n z r).2.2 ρ)) → (∀ k, k < z → m1.1 (P + 5) k = nI ((cOut n z r).2.1 k)) →
      AW ad E0 μX3_fillEachWithEach (d + 2) (ciC m P n z) 37 [(0, .ref (ad P)), (1, .int (nI n)), (2, .int (nI z)), (3, .int (nI r))] [] m1 := by
    intro i
    induction i with
    | zero =>
      intro r m1 hr w1 f1 h5 h6 hC hS _
      obtain rfl : r = z - 1 := by omega
      refine g_X3_fillEachWithEach_37 (Pl_of hP) ?_
      rw [ez1]
      exact ⟨fun _ => ⟨rfl, w1, f1, h5, h6, hC, hS⟩, fun c => absurd (nI_le (Nat.le_refl _) (by omega)) c⟩
    | succ i ih =>
      intro r m1 hr w1 f1 h5 h6 hC hS hf
      refine g_X3_fillEachWithEach_37 (Pl_of hP) ?_
      rw [ez1]
      refine ⟨fun c => absurd ((nI_leI (by omega) (by omega)).mp c) (by omega), fun _ => (e_openR hP w1 f1 h5 h6 (by omega) (by have := cOut_le (n := n) (z := z) z8 r; omega)).to ?_⟩
      rintro _ m2 ⟨rfl, w2, f2, k5, k6, -, -, k9, k10, k11, -, k13⟩
      refine ⟨rfl, ?_⟩
      have g0 := cOut_le (n := n) (z := z) z8 r
      have ff := cOut_f (n := n) z2 r
      have hS2 : ∀ ρ, ρ < r + 1 → m2.1 (P + 4) ρ = nI (updN (cOut n z r).2.2 r (cOut n z r).1.1 ρ) := fun ρ hρ => by
        by_cases h : ρ = r
        · rw [h, updN_e]; exact k11 (by omega)
        · rw [updN_n h]; exact (k10 ρ (by omega)).trans (hS ρ (by omega))
      have hC2 : CRel (cOut n z r).1.2.1 (cOut n z r).1.2.2.1 (cOut n z r).1.1 (m2.1 (P + 1)) (m2.1 (P + 2)) (m2.1 (P + 3)) := fun j hj => by
        rw [k9 1 j (by decide) (by decide), k9 2 j (by decide) (by decide), k9 3 j (by decide) (by decide)]
        exact hC j hj
      have hf2 : ∀ k, k < z → m2.1 (P + 5) k = nI ((cOut n z r).2.1 k) := fun k hk => (k13 k).trans (hf k hk)
      have IL : ∀ (i k : Nat) (m3 : Wm), k + i = z / 2 → WT m3 → Fx (PR P) m m3 → m3.1 P 5 = nI (r + 1) → m3.1 P 6 = nI (cIn (cOut n z r).2.1 n z r k (cOut n z r).1).1 → CRel (cIn (cOut n z r).2.1 n z r k (cOut n z r).1).2.1 (cIn (cOut n z r).2.1 n z r k (cOut n z r).1).2.2.1 (cIn (cOut n z r).2.1 n z r k (cOut n z r).1).1 (m3.1 (P + 1)) (m3.1 (P + 2)) (m3.1 (P + 3)) → (∀ ρ, ρ < r + 1 → m3.1 (P + 4) ρ = nI (updN (cOut n z r).2.2 r (cOut n z r).1.1 ρ)) → (∀ k, k < z → m3.1 (P + 5) k = nI ((cOut n z r).2.1 k)) →
          AW ad E0 μX3_fillEachWithEach (d + 2) (ciC m P n z) 51 [(0, .ref (ad P)), (1, .int (nI n)), (2, .int (nI z)), (3, .int (nI r)), (4, .int (nI k))] [] m3 := by
        intro i
        induction i with
        | zero =>
          intro k m3 hk w3 f3 a5 a6 aC aS af
          obtain rfl : k = z / 2 := by omega
          refine g_X3_fillEachWithEach_51 (Pl_of hP) ?_
          rw [ez2]
          refine ⟨fun _ => (e_turn (d := d + 1) hP z2 z8 w3 f3 ff af).to ?_, fun c => absurd (nI_le (Nat.le_refl _) (by omega)) c⟩
          rintro _ m4 ⟨rfl, w4, f4, b5, b6⟩
          refine ⟨rfl, ?_⟩
          rw [nI_1]
          refine ih (r + 1) m4 (by omega) w4 f4 ((b6 P 5 (by omega)).trans a5) ((b6 P 6 (by omega)).trans a6) (fun j hj => ?_) (fun ρ hρ => (b6 _ ρ (by omega)).trans (aS ρ hρ)) b5
          rw [b6 (P + 1) j (by omega), b6 (P + 2) j (by omega), b6 (P + 3) j (by omega)]
          exact aC j hj
        | succ i ih2 =>
          intro k m3 hk w3 f3 a5 a6 aC aS af
          have hkz : k < z := by omega
          have ek : nI z - 1 - nI k = nI (z - 1 - k) := by rw [ez1]; exact nI_sb (by omega) (by omega)
          have f1' := ff k hkz
          have f2' := ff (z - 1 - k) (by omega)
          have lei := (cIn_le (f := (cOut n z r).2.1) (n := n) (z := z) (r := r) (S := (cOut n z r).1) k).2
          refine g_X3_fillEachWithEach_51 (Pl_of hP) ?_
          rw [ez2, ek, nI_clamp (by omega), nI_clamp (by omega), af k hkz, af (z - 1 - k) (by omega), nI_1, nI_1]
          have skip : ¬ ((cOut n z r).2.1 k < n ∧ (cOut n z r).2.1 (z - 1 - k) < n) → AW ad E0 μX3_fillEachWithEach (d + 2) (ciC m P n z) 51 [(0, .ref (ad P)), (1, .int (nI n)), (2, .int (nI z)), (3, .int (nI r)), (4, .int (nI (k + 1)))] [] m3 := fun hn => by
            have e : cIn (cOut n z r).2.1 n z r (k + 1) (cOut n z r).1 = cIn (cOut n z r).2.1 n z r k (cOut n z r).1 := by
              rw [cIn_s]
              unfold cStep
              rw [if_neg hn]
            exact ih2 (k + 1) m3 (by omega) w3 f3 a5 (by rw [e]; exact a6) (by rw [e]; exact aC) aS af
          refine ⟨fun c => absurd ((nI_leI (by omega) (by omega)).mp c) (by omega), fun _ => ⟨nat_in (by omega) (by decide), nat_in (by omega) (by decide), fun c => skip (fun q => ?_), fun c1 => ⟨fun c => skip (fun q => ?_), fun c2 => ?_⟩⟩⟩
          · have := (nI_leI (by omega) (by omega)).mp c; omega
          · have := (nI_leI (by omega) (by omega)).mp c; omega
          · have h1 : (cOut n z r).2.1 k < n := Nat.lt_of_not_le (fun q => c1 ((nI_leI (by omega) (by omega)).mpr q))
            have h2 : (cOut n z r).2.1 (z - 1 - k) < n := Nat.lt_of_not_le (fun q => c2 ((nI_leI (by omega) (by omega)).mpr q))
            refine (e_addG (d := d + 1) hP a6 (by omega)).to ?_
            rintro _ m4 ⟨rfl, e⟩
            subst e
            refine ⟨rfl, ?_⟩
            have e : cIn (cOut n z r).2.1 n z r (k + 1) (cOut n z r).1 = ((cIn (cOut n z r).2.1 n z r k (cOut n z r).1).1 + 1, updN (cIn (cOut n z r).2.1 n z r k (cOut n z r).1).2.1 (cIn (cOut n z r).2.1 n z r k (cOut n z r).1).1 ((cOut n z r).2.1 k), updN (cIn (cOut n z r).2.1 n z r k (cOut n z r).1).2.2.1 (cIn (cOut n z r).2.1 n z r k (cOut n z r).1).1 ((cOut n z r).2.1 (z - 1 - k)), updN (cIn (cOut n z r).2.1 n z r k (cOut n z r).1).2.2.2 (cIn (cOut n z r).2.1 n z r k (cOut n z r).1).1 r) := by
              rw [cIn_s]
              unfold cStep
              rw [if_pos ⟨h1, h2⟩]
            have t1 : (nI ((cOut n z r).2.1 k)).toInt = (cOut n z r).2.1 k := nI_toInt (by omega)
            have t2 : (nI ((cOut n z r).2.1 (z - 1 - k))).toInt = (cOut n z r).2.1 (z - 1 - k) := nI_toInt (by omega)
            refine ih2 (k + 1) _ (by omega) (wP6 hP (wPc hP (wPb hP (wPa hP w3 (by omega) (by omega)) (by omega) (by omega))) (by omega)) (fP0 hP rfl (fP hP rfl (fP hP rfl (fP hP rfl f3 (by decide)) (by decide)) (by decide))) ?_ ?_ ?_ (fun ρ hρ => ?_) (fun j hj => ?_)
            · exact (u_ne (by omega)).trans ((u_ne (by omega)).trans ((u_ne (by omega)).trans ((u_ne (by omega)).trans a5)))
            · rw [e]; exact u_eq
            · rw [e]
              generalize cIn (cOut n z r).2.1 n z r k (cOut n z r).1 = S at aC
              obtain ⟨g, A, B, C⟩ := S
              dsimp only at aC ⊢
              intro j hj
              by_cases hjg : j = g
              · subst hjg
                rw [updN_e, updN_e]
                exact ⟨(u_ne (by omega)).trans ((u_ne (by omega)).trans ((u_ne (by omega)).trans u_eq)), (u_ne (by omega)).trans ((u_ne (by omega)).trans u_eq), (u_ne (by omega)).trans u_eq⟩
              · rw [updN_n hjg, updN_n hjg]
                obtain ⟨b1, b2, b3⟩ := aC j (by omega)
                exact ⟨(u_ne (by omega)).trans ((u_ne (by omega)).trans ((u_ne (by omega)).trans ((u_ne (by omega)).trans b1))), (u_ne (by omega)).trans ((u_ne (by omega)).trans ((u_ne (by omega)).trans ((u_ne (by omega)).trans b2))), (u_ne (by omega)).trans ((u_ne (by omega)).trans ((u_ne (by omega)).trans ((u_ne (by omega)).trans b3)))⟩
            · exact (u_ne (by omega)).trans ((u_ne (by omega)).trans ((u_ne (by omega)).trans ((u_ne (by omega)).trans (aS ρ hρ))))
            · exact (u_ne (by omega)).trans ((u_ne (by omega)).trans ((u_ne (by omega)).trans ((u_ne (by omega)).trans (af j hj))))
      exact IL (z / 2) 0 m2 (by omega) w2 f2 k5 k6 hC2 hS2 hf2
  refine v_X3_fillEachWithEach (d := d + 1) (Pl_of hP) ((e_clearP (Pl_of hP)).to ?_)
  rintro _ m1 ⟨rfl, e⟩
  subst e
  refine ⟨rfl, ?_⟩
  have ez : (if (8 : Int32) < (nI n + (nI n &&& (1 : Int32))) then (8 : Int32) else (nI n + (nI n &&& (1 : Int32)))) = nI z := by
    subst hz
    have h : ∀ n : Fin 9, (if (8 : Int32) < (nI n.val + (nI n.val &&& (1 : Int32))) then (8 : Int32) else (nI n.val + (nI n.val &&& (1 : Int32)))) = nI (n.val + n.val % 2) := by decide +kernel
    exact h ⟨n, by omega⟩
  rw [ez]
  have w1 : WT (uI (uI m P 5 0) P 6 0) := wP6 (v := 0) hP (wP5 (v := 0) hP w (by decide)) (by decide)
  have f1 : Fx (PR P) m (uI (uI m P 5 0) P 6 0) := fP0 hP rfl (fP0 hP rfl Fx.rf)
  have PL : ∀ (i k : Nat) (m1 : Wm), k + i = z → WT m1 → Fx (PR P) m m1 → m1.1 P 5 = nI 0 → m1.1 P 6 = nI 0 → (∀ j, j < k → m1.1 (P + 5) j = nI j) →
      AW ad E0 μX3_fillEachWithEach (d + 2) (ciC m P n z) 17 [(0, .ref (ad P)), (1, .int (nI n)), (2, .int (nI z)), (3, .int (nI k))] [] m1 := by
    intro i
    induction i with
    | zero =>
      intro k m1 hk w1 f1 a5 a6 af
      obtain rfl : k = z := hk
      refine g_X3_fillEachWithEach_17 (Pl_of hP) ⟨fun _ => RL (k - 1) 0 m1 (by omega) w1 f1 a5 a6 (fun j hj => absurd hj (Nat.not_lt_zero j)) (fun ρ hρ => absurd hρ (Nat.not_lt_zero ρ)) af, fun c => absurd (nI_le (Nat.le_refl _) (by omega)) c⟩
    | succ i ih =>
      intro k m1 hk w1 f1 a5 a6 af
      refine g_X3_fillEachWithEach_17 (Pl_of hP) ⟨fun c => absurd ((nI_leI (by omega) (by omega)).mp c) (by omega), fun _ => ⟨nat_in (by omega) (by decide), ?_⟩⟩
      rw [nI_1, nI_clamp (by omega)]
      refine ih (k + 1) _ (by omega) (wt5 w1 (by omega)) (fP hP rfl f1 (by decide)) ((u_ne (by omega)).trans a5) ((u_ne (by omega)).trans a6) (fun j hj => ?_)
      by_cases hjk : j = k
      · rw [hjk]; exact u_eq
      · exact (u_ne (fun q => hjk q.2)).trans (af j (by omega))
  exact PL z 0 _ (by omega) w1 f1 ((u_ne (by omega)).trans u_eq) u_eq (fun j hj => absurd hj (Nat.not_lt_zero j))
theorem e_circleC {Q : Nat} (w : WT m) (hn : m.1 3 3 = nI n) (hn8 : n ≤ 8) (hR : PRF m P Q) : Ct ad μX11_circle (d + 3) [.ref (ad 0)] m (fun r m' => WT m' ∧ Fx (RS [7, 44]) m m' ∧ PRF m' P Q ∧ ((n < 2 ∧ r = some (.int (-1)) ∧ m' = m) ∨ (2 ≤ n ∧ r = some (.int (nI (n + n % 2 - 1))) ∧ m'.1 0 11 = 0 ∧ m'.1 P 5 = nI (n + n % 2 - 1) ∧ m'.1 P 6 = nI (cOut n (n + n % 2) (n + n % 2 - 1)).1.1 ∧ CRel (cOut n (n + n % 2) (n + n % 2 - 1)).1.2.1 (cOut n (n + n % 2) (n + n % 2 - 1)).1.2.2.1 (cOut n (n + n % 2) (n + n % 2 - 1)).1.1 (m'.1 (P + 1)) (m'.1 (P + 2)) (m'.1 (P + 3)) ∧ ∀ ρ, ρ < n + n % 2 - 1 → m'.1 (P + 4) ρ = nI ((cOut n (n + n % 2) (n + n % 2 - 1)).2.2 ρ)))) := by
  have hR0 := hR
  obtain ⟨h9, h10, hPQ⟩ := hR
  have hP : P = 134 ∨ P = 140 := by omega
  refine v_X11_circle (d := d + 2) ?_
  rw [hn]
  refine ⟨fun c => ?_, fun c => ⟨w, Fx.rf, hR0, Or.inl ⟨?_, rfl, rfl⟩⟩⟩
  · have hn2 := (le_l 2 2 rfl (by decide) (by omega)).mp c
    refine ⟨P, h9, Pl_of hP, (e_fill (d := d) hP hn2 hn8 rfl w).to ?_⟩
    rintro _ m1 ⟨rfl, w1, f1, a5, a6, aC, aS⟩
    have r9 : (uI m1 0 11 (0 : Int32)).2.2 0 9 = some P := (f1 0 9 (by unfold PR; omega)).2.2.trans h9
    have r10 : (uI m1 0 11 (0 : Int32)).2.2 0 10 = some Q := (f1 0 10 (by unfold PR; omega)).2.2.trans h10
    have b5 : (uI m1 0 11 (0 : Int32)).1 P 5 = nI (n + n % 2 - 1) := (u_ne (by omega)).trans a5
    refine ⟨rfl, P, r9, Pl_of hP, w1.n rfl, ((Fx.rf (S := RS [7, 44])).tr f1 (PR_7 hP rfl)).i rfl, ⟨r9, r10, hPQ⟩, Or.inr ⟨hn2, by rw [b5], rfl, b5, (u_ne (by omega)).trans a6, fun j hj => ?_, fun ρ hρ => (u_ne (by omega)).trans (aS ρ hρ)⟩⟩
    rw [u_ne (by omega), u_ne (by omega), u_ne (by omega)]
    exact aC j hj
  · exact Nat.lt_of_not_le (fun q => c ((le_l 2 2 rfl (by decide) (by omega)).mpr q))
end CRC
