/-! ROUNDS: games one after another, by both sides -/
/-- league, what can be undone, how many were drawn, how many played -/
abbrev RSt : Type := GS × List GS × Nat × Nat
/-- first, second, thrown of the games, where rounds begin, how many rounds, how many games -/
abbrev PLN : Type := (Nat → Nat) × (Nat → Nat) × (Nat → Int32) × (Nat → Nat) × Nat × Nat
def f1P (p : PLN) : Nat → Nat := p.1
def f2P (p : PLN) : Nat → Nat := p.2.1
def thP (p : PLN) : Nat → Int32 := p.2.2.1
def snP (p : PLN) : Nat → Nat := p.2.2.2.1
def rdP (p : PLN) : Nat := p.2.2.2.2.1
def gmP (p : PLN) : Nat := p.2.2.2.2.2
/-- behind the last game of round ρ -/
def enP (p : PLN) (ρ : Nat) : Nat := if ρ + 1 < rdP p then snP p (ρ + 1) else gmP p
def nxP (p : PLN) (ρ : Nat) : Nat := if ρ + 1 < rdP p then ρ + 1 else 0
def stepR (lk sv : Bool) (v : EV) (p : PLN) (j : Nat) (S : RSt) : RSt :=
  (goG lk v (f1P p j) (f2P p j) (thP p j) S.1, (if sv = true then (S.1 :: S.2.1).take 20 else S.2.1), (if wonG lk v (f1P p j) (f2P p j) (thP p j) S.1 = 2 then S.2.2.1 + 1 else S.2.2.1), S.2.2.2 + 1)
def runR (lk sv : Bool) (v : EV) (p : PLN) : Nat → Nat → RSt → RSt
  | 0, _, S => S
  | k + 1, j, S => runR lk sv v p k (j + 1) (stepR lk sv v p j S)
def rdsR (lk sv : Bool) (v : EV) (p : PLN) : Nat → Nat → RSt → RSt
  | 0, _, S => S
  | k + 1, ρ, S => rdsR lk sv v p k (nxP p ρ) (runR lk sv v p (enP p ρ - snP p ρ) (snP p ρ) S)
/-- a plan that can be played -/
def PlnOK (v : EV) (p : PLN) : Prop := 1 ≤ rdP p ∧ rdP p ≤ 12 ∧ gmP p ≤ 40 ∧ SRel (rdP p - 1) (gmP p) (snP p) ∧ ∀ j, j < gmP p → f1P p j < nE v ∧ f2P p j < nE v ∧ f1P p j ≠ f2P p j ∧ (thP p j = 0 ∨ thP p j = 1 ∨ thP p j = 2 ∨ thP p j = 3)
/-- the class's plan at P -/
def PlnC (m : Wm) (p : PLN) : Prop := ∃ P Q, PRF m P Q ∧ m.1 P 5 = nI (rdP p) ∧ m.1 P 6 = nI (gmP p) ∧ (∀ j, j < gmP p → m.1 (P + 1) j = nI (f1P p j) ∧ m.1 (P + 2) j = nI (f2P p j) ∧ m.1 (P + 3) j = thP p j) ∧ ∀ ρ, ρ < rdP p → m.1 (P + 4) ρ = nI (snP p ρ)
def PlnM (m : Wm) (p : PLN) : Prop := m.1 187 11 = nI (rdP p) ∧ m.1 187 10 = nI (gmP p) ∧ ∀ j, j < gmP p → m.1 194 (4 * j) = nI (f1P p j) ∧ m.1 194 (4 * j + 1) = nI (f2P p j) ∧ m.1 194 (4 * j + 2) = thP p j ∧ ∃ ρ, ρ < rdP p ∧ m.1 194 (4 * j + 3) = nI ρ ∧ snP p ρ ≤ j ∧ j < enP p ρ
theorem sn_mono {r g : Nat} {sn : Nat → Nat} (h : SRel r g sn) : ∀ k ρ, ρ + k ≤ r → sn ρ ≤ sn (ρ + k) := by
  intro k
  induction k with
  | zero => intro ρ _; exact Nat.le_refl _
  | succ k ih => intro ρ hk; exact Nat.le_trans (ih ρ (by omega)) (h.2.1 (ρ + k) (by omega))
theorem sn_le {r g : Nat} {sn : Nat → Nat} (h : SRel r g sn) {ρ : Nat} (hρ : ρ ≤ r) : sn ρ ≤ g := by
  have := sn_mono h (r - ρ) ρ (by omega)
  rw [show ρ + (r - ρ) = r by omega] at this
  exact Nat.le_trans this h.2.2
section RDP
variable {v : EV} {p : PLN} {m m' : Wm}
theorem PlnOK.en (h : PlnOK v p) {ρ : Nat} (hρ : ρ < rdP p) : snP p ρ ≤ enP p ρ ∧ enP p ρ ≤ gmP p := by
  obtain ⟨h1, h2, h3, h4, h5⟩ := h
  unfold enP
  by_cases c : ρ + 1 < rdP p
  · rw [if_pos c]
    exact ⟨h4.2.1 ρ (by omega), sn_le h4 (by omega)⟩
  · rw [if_neg c]
    exact ⟨sn_le h4 (by omega), Nat.le_refl _⟩
/-- a game is in its round alone -/
theorem PlnOK.one (h : PlnOK v p) {ρ σ j : Nat} (hρ : ρ < rdP p) (hσ : σ < rdP p) (h1 : snP p ρ ≤ j) (h2 : j < enP p ρ) (h3 : snP p σ ≤ j) (h4 : j < enP p σ) : ρ = σ := by
  obtain ⟨a1, a2, a3, a4, a5⟩ := h
  have key : ∀ x y, x < y → y < rdP p → snP p y ≤ j → j < enP p x → False := fun x y hxy hy e1 e2 => by
    unfold enP at e2
    rw [if_pos (by omega)] at e2
    have := sn_mono a4 (y - (x + 1)) (x + 1) (by omega)
    rw [show x + 1 + (y - (x + 1)) = y by omega] at this
    omega
  rcases Nat.lt_trichotomy ρ σ with q | q | q
  · exact (key ρ σ q hσ h3 h2).elim
  · exact q
  · exact (key σ ρ q hρ h1 h4).elim
theorem nxP_lt (h : PlnOK v p) {ρ : Nat} : nxP p ρ < rdP p := by
  have := h.1
  unfold nxP
  split <;> omega
theorem nxP_mod (h : PlnOK v p) {x ρ : Nat} (hρ : x % rdP p = ρ) : (x + 1) % rdP p = nxP p ρ := by
  have h1 := h.1
  have hl := Nat.mod_lt x (show 0 < rdP p by omega)
  unfold nxP
  rw [Nat.add_mod, hρ]
  by_cases c : ρ + 1 < rdP p
  · rw [if_pos c]
    have : 1 % rdP p = 1 := Nat.mod_eq_of_lt (by omega)
    rw [this, Nat.mod_eq_of_lt c]
  · rw [if_neg c]
    by_cases r1 : rdP p = 1
    · rw [r1]; exact Nat.mod_one _
    · have : 1 % rdP p = 1 := Nat.mod_eq_of_lt (by omega)
      rw [this, show ρ + 1 = rdP p by omega, Nat.mod_self]
theorem runR_add {lk sv : Bool} : ∀ (a b j : Nat) (S : RSt), runR lk sv v p (a + b) j S = runR lk sv v p b (j + a) (runR lk sv v p a j S) := by
  intro a
  induction a with
  | zero => intro b j S; rw [Nat.zero_add]; rfl
  | succ a ih =>
    intro b j S
    rw [show a + 1 + b = (a + b) + 1 by omega]
    show runR lk sv v p (a + b) (j + 1) (stepR lk sv v p j S) = runR lk sv v p b (j + (a + 1)) (runR lk sv v p a (j + 1) (stepR lk sv v p j S))
    rw [ih b (j + 1) (stepR lk sv v p j S), show j + 1 + a = j + (a + 1) by omega]
end RDP
section RDM
variable {ad : Nat → Nat} {d : Nat} {m m0 : Wm} {v : EV} {p : PLN}
/-- what the model's state is while rounds are played -/
def RdM (n : Nat) (m : Wm) (S : RSt) : Prop := HM n m S.1 ∧ UnM n m S.2.1 ∧ S.2.1.length ≤ 20 ∧ m.1 187 33 = nI S.2.2.1 ∧ m.1 187 32 = nI S.2.2.2
theorem PlnM.fx {S : List Nat} {m' : Wm} (h : PlnM m p) (f : Fx (RS S) m m') (e1 : S.elem 25 = false) (e2 : S.elem 55 = false) : PlnM m' p := by
  obtain ⟨h1, h2, h3⟩ := h
  refine ⟨(f.at (nRS (ρ := 25) e1 rfl)).trans h1, (f.at (nRS (ρ := 25) e1 rfl)).trans h2, fun j hj => ?_⟩
  obtain ⟨a, b, c, ρ, e⟩ := h3 j hj
  have r : ∀ k, m'.1 194 k = m.1 194 k := fun k => f.at (nRS (ρ := 55) e2 rfl)
  exact ⟨(r _).trans a, (r _).trans b, (r _).trans c, ρ, e.1, (r _).trans e.2.1, e.2.2⟩
set_option maxHeartbeats 2000000 in
/-- round ρ from game j on -/
theorem roundM (hp : PlnOK v p) {lk sv : Bool} {x1 x2 x3 x4 x5 : Int32} (h3 : x3 = 0 ↔ sv = false) (h4 : x4 = 0 ↔ lk = false) {ρ : Nat} (hρ : ρ < rdP p) {Q : Option Value → Wm → Prop} (T : RSt)
    (K : ∀ m1, WT m1 → Fx (RS [22, 24, 28, 29, 31, 49]) m0 m1 → RdM (nE v) m1 T → AW ad E0 μX12_goRounds (d + 171) Q 13 [(0, .ref (ad 187)), (1, .int x1), (2, .int x2), (3, .int x3), (4, .int x4), (5, .int (x5 + (1 : Int32)))] [] m1)
    (hE : EM m0 v) (hP : PlnM m0 p) :
    ∀ (n j : Nat) (S : RSt) (m : Wm), j + n = gmP p → WT m → Fx (RS [22, 24, 28, 29, 31, 49]) m0 m → RdM (nE v) m S →
      T = runR lk sv v p (enP p ρ - (if j < snP p ρ then snP p ρ else j)) (if j < snP p ρ then snP p ρ else j) S →
      AW ad E0 μX12_goRounds (d + 171) Q 33 [(0, .ref (ad 187)), (1, .int x1), (2, .int x2), (3, .int x3), (4, .int x4), (5, .int x5), (6, .int (nI ρ)), (7, .int (nI j))] [] m := by
  intro n
  have hen := hp.en hρ
  induction n with
  | zero =>
    intro j S m hj w f R hT
    have P1 := hP.fx f rfl rfl
    obtain ⟨a1, a2, a3, a4, a5⟩ := hp
    refine g_X12_goRounds_33 (d := d + 170) ⟨fun _ => K m w f ?_, fun c => absurd (by rw [P1.2.1]; exact (nI_leI (by omega) (by omega)).mpr (by omega)) c⟩
    have : enP p ρ - (if j < snP p ρ then snP p ρ else j) = 0 := by split <;> omega
    rw [this] at hT
    rw [hT]
    exact R
  | succ n ih =>
    intro j S m hj w f R hT
    have P1 := hP.fx f rfl rfl
    have E1 := hE.fx f rfl
    obtain ⟨a1, a2, a3, a4, a5⟩ := hp
    obtain ⟨b1, b2, b3, σ, b4, b5, b6, b7⟩ := P1.2.2 j (by omega)
    obtain ⟨c1, c2, c3, c4⟩ := a5 j (by omega)
    have n8 := E1.2.2.1
    refine g_X12_goRounds_33 (d := d + 170) ⟨fun c => absurd (by rw [P1.2.1] at c; exact (nI_leI (by omega) (by omega)).mp c) (by omega), fun _ => ?_⟩
    rw [l_mul 4 4 rfl, add_l 3 3 rfl, nI_clamp (by omega), b5]
    refine ⟨nat_in (by omega) (by decide), fun q => ?_, fun q => ?_⟩
    · have hσ : σ = ρ := (nI_eq (a := σ) (b := ρ) (by omega) (by omega)).mp q
      subst hσ
      rw [if_neg (by omega)] at hT
      have hT2 : T = runR lk sv v p (enP p σ - (if j + 1 < snP p σ then snP p σ else j + 1)) (if j + 1 < snP p σ then snP p σ else j + 1) (stepR lk sv v p j S) := by
        rw [if_neg (by omega), hT, show enP p σ - j = (enP p σ - (j + 1)) + 1 by omega]
        rfl
      obtain ⟨R1, R2, R3, R4, R5⟩ := R
      -- the game, behind what was remembered
      have G : ∀ (H' : List GS) (m2 : Wm), H' = (if sv = true then (S.1 :: S.2.1).take 20 else S.2.1) → H'.length ≤ 20 → WT m2 → Fx (RS [22, 24, 28, 29, 31, 49]) m0 m2 → HM (nE v) m2 S.1 → UnM (nE v) m2 H' → m2.1 187 33 = nI S.2.2.1 → m2.1 187 32 = nI S.2.2.2 → AW ad E0 μX12_goRounds (d + 171) Q 69 [(0, .ref (ad 187)), (1, .int x1), (2, .int x2), (3, .int x3), (4, .int x4), (5, .int x5), (6, .int (nI σ)), (7, .int (nI j))] [] m2 := by
        intro H' m2 hH hl w2 f2 H2 U2 k33 k32
        have P2 := hP.fx f2 rfl rfl
        have E2 := hE.fx f2 rfl
        obtain ⟨d1, d2, d3, -⟩ := P2.2.2 j (by omega)
        refine g_X12_goRounds_69 (d := d + 170) ?_
        rw [l_mul 4 4 rfl, nI_1, add_l 2 2 rfl, nI_clamp (by omega), nI_clamp (by omega), nI_clamp (by omega), d1, d2, d3, k33]
        refine ⟨nat_in (by omega) (by decide), nat_in (by omega) (by decide), nat_in (by omega) (by decide), (goGameM (d := d) w2 H2 E2 c1 c2 c3 c4 h4).to ?_⟩
        rintro _ m3 ⟨w3, f3, rfl, H3⟩
        have f3' := f2.tr f3 (RS_sub rfl)
        have k32' : m3.1 187 32 = nI S.2.2.2 := (f3.at (nRS (ρ := 31) rfl rfl)).trans k32
        have U3 := U2.fx f3 rfl
        have fin : ∀ (y : Nat), y = (if wonG lk v (f1P p j) (f2P p j) (thP p j) S.1 = 2 then S.2.2.1 + 1 else S.2.2.1) → ∀ s0 : Int32, nI S.2.2.1 + s0 = nI y → AW ad E0 μX12_goRounds (d + 171) Q 120 [(0, .ref (ad 187)), (1, .int x1), (2, .int x2), (3, .int x3), (4, .int x4), (5, .int x5), (6, .int (nI σ)), (7, .int (nI j))] [.int s0, .int (nI S.2.2.1), .ref (ad 187)] m3 := by
          intro y hy s0 hs
          refine g_X12_goRounds_120 (d := d + 170) ?_
          have e32 : (uI m3 187 33 (nI S.2.2.1 + s0)).1 187 32 = nI S.2.2.2 := (u_ne (by omega)).trans k32'
          rw [e32, nI_1, nI_1, hs]
          have hH' : (stepR lk sv v p j S).2.1 = H' := hH.symm
          have hy' : (stepR lk sv v p j S).2.2.1 = y := hy.symm
          have hU : UnM (nE v) (uI (uI m3 187 33 (nI y)) 187 32 (nI (S.2.2.2 + 1))) H' := ⟨(u_ne (by omega)).trans ((u_ne (by omega)).trans U3.1), fun i hi => (U3.2 i hi).k (fun k _ _ => (u_ne (by omega)).trans (u_ne (by omega)))⟩
          refine ih (j + 1) (stepR lk sv v p j S) _ (by omega) ((w3.n rfl).n rfl) ((f3'.i rfl).i rfl) ⟨H3, by rw [hH']; exact hU, by rw [hH']; exact hl, ?_, u_eq⟩ hT2
          rw [hy']
          exact (u_ne (by omega)).trans u_eq
        refine ⟨_, rfl, fun q2 => fin _ (if_neg q2).symm 0 ?_, fun q2 => fin _ (if_pos q2).symm 1 ?_⟩
        · exact Int32.add_zero _
        · exact nI_1 _
      refine ⟨fun q3 => ?_, fun q3 => ?_⟩
      · exact G S.2.1 m (by rw [if_neg (by rw [h3.mp q3]; decide)]) R3 w f R1 R2 R4 R5
      · have hsv : sv = true := by
          cases z : sv with
          | true => rfl
          | false => exact absurd (h3.mpr z) q3
        refine (rememberM (d := d + 169) w R1 n8 R2 R3).to ?_
        rintro _ m2 ⟨rfl, w2, f2, U2⟩
        exact ⟨rfl, G _ m2 (by rw [if_pos hsv]) (by rw [List.length_take]; omega) w2 (f.tr f2 (RS_sub rfl)) (R1.fx f2 rfl rfl) U2 ((f2.at (nRS (ρ := 31) rfl rfl)).trans R4) ((f2.at (nRS (ρ := 31) rfl rfl)).trans R5)⟩
    · have hσ : σ ≠ ρ := fun z => q (by rw [z])
      have hout : j < snP p ρ ∨ enP p ρ ≤ j := by
        by_cases z : j < snP p ρ
        · exact Or.inl z
        · refine Or.inr (Nat.le_of_not_lt (fun z2 => hσ ?_))
          exact PlnOK.one ⟨a1, a2, a3, a4, a5⟩ b4 hρ b6 b7 (by omega) z2
      rw [nI_1]
      refine ih (j + 1) S m (by omega) w f R ?_
      rw [hT]
      rcases hout with z | z
      · rw [if_pos z]
        by_cases z2 : j + 1 < snP p ρ
        · rw [if_pos z2]
        · rw [if_neg z2, show snP p ρ = j + 1 by omega]
      · have e1 : enP p ρ - (if j < snP p ρ then snP p ρ else j) = 0 := by split <;> omega
        have e2 : enP p ρ - (if j + 1 < snP p ρ then snP p ρ else j + 1) = 0 := by split <;> omega
        rw [e1, e2]
        rfl
end RDM
