/-! ROUNDS: games one after another, by both sides -/
/-- league, what can be undone, how many were drawn, how many played -/
abbrev RSt : Type := GS × List GS × Nat × Nat
/-- first, second, thrown of the games, where rounds begin, how many rounds, how many games -/
abbrev PLN : Type := (Nat → Nat) × (Nat → Nat) × (Nat → Int32) × (Nat → Nat) × Nat × Nat
def f1P (p : PLN) : Nat → Nat := p.1
def f2P (p : PLN) : Nat → Nat := p.2.1
def thP (p : PLN) : Nat → Int32 := p.2.2.1
def snP (p : PLN) : Nat → Nat := p.2.2.2.1
def rdP (p : PLN) : Nat := p.2.2.2.2.1
def gmP (p : PLN) : Nat := p.2.2.2.2.2
/-- behind the last game of round ρ -/
def enP (p : PLN) (ρ : Nat) : Nat := if ρ + 1 < rdP p then snP p (ρ + 1) else gmP p
def nxP (p : PLN) (ρ : Nat) : Nat := if ρ + 1 < rdP p then ρ + 1 else 0
def stepR (lk sv : Bool) (v : EV) (p : PLN) (j : Nat) (S : RSt) : RSt :=
  (goG lk v (f1P p j) (f2P p j) (thP p j) S.1, (if sv = true then (S.1 :: S.2.1).take 20 else S.2.1), (if wonG lk v (f1P p j) (f2P p j) (thP p j) S.1 = 2 then S.2.2.1 + 1 else S.2.2.1), S.2.2.2 + 1)
def runR (lk sv : Bool) (v : EV) (p : PLN) : Nat → Nat → RSt → RSt
  | 0, _, S => S
  | k + 1, j, S => runR lk sv v p k (j + 1) (stepR lk sv v p j S)
def rdsR (lk sv : Bool) (v : EV) (p : PLN) : Nat → Nat → RSt → RSt
  | 0, _, S => S
  | k + 1, ρ, S => rdsR lk sv v p k (nxP p ρ) (runR lk sv v p (enP p ρ - snP p ρ) (snP p ρ) S)
/-- a plan that can be played -/
def PlnOK (v : EV) (p : PLN) : Prop := 1 ≤ rdP p ∧ rdP p ≤ 12 ∧ gmP p ≤ 40 ∧ SRel (rdP p - 1) (gmP p) (snP p) ∧ ∀ j, j < gmP p → f1P p j < nE v ∧ f2P p j < nE v ∧ f1P p j ≠ f2P p j ∧ (thP p j = 0 ∨ thP p j = 1 ∨ thP p j = 2 ∨ thP p j = 3)
/-- the class's plan at P -/
def PlnC (m : Wm) (p : PLN) : Prop := ∃ P Q, PRF m P Q ∧ m.1 P 5 = nI (rdP p) ∧ m.1 P 6 = nI (gmP p) ∧ (∀ j, j < gmP p → m.1 (P + 1) j = nI (f1P p j) ∧ m.1 (P + 2) j = nI (f2P p j) ∧ m.1 (P + 3) j = thP p j) ∧ ∀ ρ, ρ < rdP p → m.1 (P + 4) ρ = nI (snP p ρ)
def PlnM (m : Wm) (p : PLN) : Prop := m.1 187 11 = nI (rdP p) ∧ m.1 187 10 = nI (gmP p) ∧ ∀ j, j < gmP p → m.1 194 (4 * j) = nI (f1P p j) ∧ m.1 194 (4 * j + 1) = nI (f2P p j) ∧ m.1 194 (4 * j + 2) = thP p j ∧ ∃ ρ, ρ < rdP p ∧ m.1 194 (4 * j + 3) = nI ρ ∧ snP p ρ ≤ j ∧ j < enP p ρ
theorem sn_mono {r g : Nat} {sn : Nat → Nat} (h : SRel r g sn) : ∀ k ρ, ρ + k ≤ r → sn ρ ≤ sn (ρ + k) := by
  intro k
  induction k with
  | zero => intro ρ _; exact Nat.le_refl _
  | succ k ih => intro ρ hk; exact Nat.le_trans (ih ρ (by omega)) (h.2.1 (ρ + k) (by omega))
theorem sn_le {r g : Nat} {sn : Nat → Nat} (h : SRel r g sn) {ρ : Nat} (hρ : ρ ≤ r) : sn ρ ≤ g := by
  have := sn_mono h (r - ρ) ρ (by omega)
  rw [show ρ + (r - ρ) = r by omega] at this
  exact Nat.le_trans this h.2.2
section RDP
variable {v : EV} {p : PLN} {m m' : Wm}
theorem PlnOK.en (h : PlnOK v p) {ρ : Nat} (hρ : ρ < rdP p) : snP p ρ ≤ enP p ρ ∧ enP p ρ ≤ gmP p := by
  obtain ⟨h1, h2, h3, h4, h5⟩ := h
  unfold enP
  by_cases c : ρ + 1 < rdP p
  · rw [if_pos c]
    exact ⟨h4.2.1 ρ (by omega), sn_le h4 (by omega)⟩
  · rw [if_neg c]
    exact ⟨sn_le h4 (by omega), Nat.le_refl _⟩
/-- a game is in its round alone -/
theorem PlnOK.one (h : PlnOK v p) {ρ σ j : Nat} (hρ : ρ < rdP p) (hσ : σ < rdP p) (h1 : snP p ρ ≤ j) (h2 : j < enP p ρ) (h3 : snP p σ ≤ j) (h4 : j < enP p σ) : ρ = σ := by
  obtain ⟨a1, a2, a3, a4, a5⟩ := h
  have key : ∀ x y, x < y → y < rdP p → snP p y ≤ j → j < enP p x → False := fun x y hxy hy e1 e2 => by
    unfold enP at e2
    rw [if_pos (by omega)] at e2
    have := sn_mono a4 (y - (x + 1)) (x + 1) (by omega)
    rw [show x + 1 + (y - (x + 1)) = y by omega] at this
    omega
  rcases Nat.lt_trichotomy ρ σ with q | q | q
  · exact (key ρ σ q hσ h3 h2).elim
  · exact q
  · exact (key σ ρ q hρ h1 h4).elim
theorem nxP_lt (h : PlnOK v p) {ρ : Nat} : nxP p ρ < rdP p := by
  have := h.1
  unfold nxP
  split <;> omega
theorem nxP_mod (h : PlnOK v p) {x ρ : Nat} (hρ : x % rdP p = ρ) : (x + 1) % rdP p = nxP p ρ := by
  have h1 := h.1
  have hl := Nat.mod_lt x (show 0 < rdP p by omega)
  unfold nxP
  rw [Nat.add_mod, hρ]
  by_cases c : ρ + 1 < rdP p
  · rw [if_pos c]
    have : 1 % rdP p = 1 := Nat.mod_eq_of_lt (by omega)
    rw [this, Nat.mod_eq_of_lt c]
  · rw [if_neg c]
    by_cases r1 : rdP p = 1
    · rw [r1]; exact Nat.mod_one _
    · have : 1 % rdP p = 1 := Nat.mod_eq_of_lt (by omega)
      rw [this, show ρ + 1 = rdP p by omega, Nat.mod_self]
theorem runR_add {lk sv : Bool} : ∀ (a b j : Nat) (S : RSt), runR lk sv v p (a + b) j S = runR lk sv v p b (j + a) (runR lk sv v p a j S) := by
  intro a
  induction a with
  | zero => intro b j S; rw [Nat.zero_add]; rfl
  | succ a ih =>
    intro b j S
    rw [show a + 1 + b = (a + b) + 1 by omega]
    show runR lk sv v p (a + b) (j + 1) (stepR lk sv v p j S) = runR lk sv v p b (j + (a + 1)) (runR lk sv v p a (j + 1) (stepR lk sv v p j S))
    rw [ih b (j + 1) (stepR lk sv v p j S), show j + 1 + a = j + (a + 1) by omega]
end RDP
section RDM
variable {ad : Nat → Nat} {d : Nat} {m m0 : Wm} {v : EV} {p : PLN}
/-- what the model's state is while rounds are played -/
def RdM (n : Nat) (m : Wm) (S : RSt) : Prop := HM n m S.1 ∧ UnM n m S.2.1 ∧ S.2.1.length ≤ 20 ∧ m.1 187 33 = nI S.2.2.1 ∧ m.1 187 32 = nI S.2.2.2
theorem PlnM.fx {S : List Nat} {m' : Wm} (h : PlnM m p) (f : Fx (RS S) m m') (e1 : S.elem 25 = false) (e2 : S.elem 55 = false) : PlnM m' p := by
  obtain ⟨h1, h2, h3⟩ := h
  refine ⟨(f.at (nRS (ρ := 25) e1 rfl)).trans h1, (f.at (nRS (ρ := 25) e1 rfl)).trans h2, fun j hj => ?_⟩
  obtain ⟨a, b, c, ρ, e⟩ := h3 j hj
  have r : ∀ k, m'.1 194 k = m.1 194 k := fun k => f.at (nRS (ρ := 55) e2 rfl)
  exact ⟨(r _).trans a, (r _).trans b, (r _).trans c, ρ, e.1, (r _).trans e.2.1, e.2.2⟩
set_option maxHeartbeats 2000000 in
/-- round ρ from game j on -/
theorem roundM (hp : PlnOK v p) {lk sv : Bool} {x1 x2 x3 x4 x5 : Int32} (h3 : x3 = 0 ↔ sv = false) (h4 : x4 = 0 ↔ lk = false) {ρ : Nat} (hρ : ρ < rdP p) {Q : Option Value → Wm → Prop} (T : RSt)
    (K : ∀ m1, WT m1 → Fx (RS [22, 24, 28, 29, 31, 49]) m0 m1 → RdM (nE v) m1 T → AW ad E0 μX12_goRounds (d + 171) Q 13 [(0, .ref (ad 187)), (1, .int x1), (2, .int x2), (3, .int x3), (4, .int x4), (5, .int (x5 + (1 : Int32)))] [] m1)
    (hE : EM m0 v) (hP : PlnM m0 p) :
    ∀ (n j : Nat) (S : RSt) (m : Wm), j + n = gmP p → WT m → Fx (RS [22, 24, 28, 29, 31, 49]) m0 m → RdM (nE v) m S →
      T = runR lk sv v p (enP p ρ - (if j < snP p ρ then snP p ρ else j)) (if j < snP p ρ then snP p ρ else j) S →
      AW ad E0 μX12_goRounds (d + 171) Q 33 [(0, .ref (ad 187)), (1, .int x1), (2, .int x2), (3, .int x3), (4, .int x4), (5, .int x5), (6, .int (nI ρ)), (7, .int (nI j))] [] m := by
  intro n
  have hen := hp.en hρ
  induction n with
  | zero =>
    intro j S m hj w f R hT
    have P1 := hP.fx f rfl rfl
    obtain ⟨a1, a2, a3, a4, a5⟩ := hp
    refine g_X12_goRounds_33 (d := d + 170) ⟨fun _ => K m w f ?_, fun c => absurd (by rw [P1.2.1]; exact (nI_leI (by omega) (by omega)).mpr (by omega)) c⟩
    have : enP p ρ - (if j < snP p ρ then snP p ρ else j) = 0 := by split <;> omega
    rw [this] at hT
    rw [hT]
    exact R
  | succ n ih =>
    intro j S m hj w f R hT
    have P1 := hP.fx f rfl rfl
    have E1 := hE.fx f rfl
    obtain ⟨a1, a2, a3, a4, a5⟩ := hp
    obtain ⟨b1, b2, b3, σ, b4, b5, b6, b7⟩ := P1.2.2 j (by omega)
    obtain ⟨c1, c2, c3, c4⟩ := a5 j (by omega)
    have n8 := E1.2.2.1
    refine g_X12_goRounds_33 (d := d + 170) ⟨fun c => absurd (by rw [P1.2.1] at c; exact (nI_leI (by omega) (by omega)).mp c) (by omega), fun _ => ?_⟩
    rw [l_mul 4 4 rfl, add_l 3 3 rfl, nI_clamp (by omega), b5]
    refine ⟨nat_in (by omega) (by decide), fun q => ?_, fun q => ?_⟩
    · have hσ : σ = ρ := (nI_eq (a := σ) (b := ρ) (by omega) (by omega)).mp q
      subst hσ
      rw [if_neg (by omega)] at hT
      have hT2 : T = runR lk sv v p (enP p σ - (if j + 1 < snP p σ then snP p σ else j + 1)) (if j + 1 < snP p σ then snP p σ else j + 1) (stepR lk sv v p j S) := by
        rw [if_neg (by omega), hT, show enP p σ - j = (enP p σ - (j + 1)) + 1 by omega]
        rfl
      obtain ⟨R1, R2, R3, R4, R5⟩ := R
      -- the game, behind what was remembered
      have G : ∀ (H' : List GS) (m2 : Wm), H' = (if sv = true then (S.1 :: S.2.1).take 20 else S.2.1) → H'.length ≤ 20 → WT m2 → Fx (RS [22, 24, 28, 29, 31, 49]) m0 m2 → HM (nE v) m2 S.1 → UnM (nE v) m2 H' → m2.1 187 33 = nI S.2.2.1 → m2.1 187 32 = nI S.2.2.2 → AW ad E0 μX12_goRounds (d + 171) Q 69 [(0, .ref (ad 187)), (1, .int x1), (2, .int x2), (3, .int x3), (4, .int x4), (5, .int x5), (6, .int (nI σ)), (7, .int (nI j))] [] m2 := by
        intro H' m2 hH hl w2 f2 H2 U2 k33 k32
        have P2 := hP.fx f2 rfl rfl
        have E2 := hE.fx f2 rfl
        obtain ⟨d1, d2, d3, -⟩ := P2.2.2 j (by omega)
        refine g_X12_goRounds_69 (d := d + 170) ?_
        rw [l_mul 4 4 rfl, nI_1, add_l 2 2 rfl, nI_clamp (by omega), nI_clamp (by omega), nI_clamp (by omega), d1, d2, d3, k33]
        refine ⟨nat_in (by omega) (by decide), nat_in (by omega) (by decide), nat_in (by omega) (by decide), (goGameM (d := d) w2 H2 E2 c1 c2 c3 c4 h4).to ?_⟩
        rintro _ m3 ⟨w3, f3, rfl, H3⟩
        have f3' := f2.tr f3 (RS_sub rfl)
        have k32' : m3.1 187 32 = nI S.2.2.2 := (f3.at (nRS (ρ := 31) rfl rfl)).trans k32
        have U3 := U2.fx f3 rfl
        have fin : ∀ (y : Nat), y = (if wonG lk v (f1P p j) (f2P p j) (thP p j) S.1 = 2 then S.2.2.1 + 1 else S.2.2.1) → ∀ s0 : Int32, nI S.2.2.1 + s0 = nI y → AW ad E0 μX12_goRounds (d + 171) Q 120 [(0, .ref (ad 187)), (1, .int x1), (2, .int x2), (3, .int x3), (4, .int x4), (5, .int x5), (6, .int (nI σ)), (7, .int (nI j))] [.int s0, .int (nI S.2.2.1), .ref (ad 187)] m3 := by
          intro y hy s0 hs
          refine g_X12_goRounds_120 (d := d + 170) ?_
          have e32 : (uI m3 187 33 (nI S.2.2.1 + s0)).1 187 32 = nI S.2.2.2 := (u_ne (by omega)).trans k32'
          rw [e32, nI_1, nI_1, hs]
          have hH' : (stepR lk sv v p j S).2.1 = H' := hH.symm
          have hy' : (stepR lk sv v p j S).2.2.1 = y := hy.symm
          have hU : UnM (nE v) (uI (uI m3 187 33 (nI y)) 187 32 (nI (S.2.2.2 + 1))) H' := ⟨(u_ne (by omega)).trans ((u_ne (by omega)).trans U3.1), fun i hi => (U3.2 i hi).k (fun k _ _ => (u_ne (by omega)).trans (u_ne (by omega)))⟩
          refine ih (j + 1) (stepR lk sv v p j S) _ (by omega) ((w3.n rfl).n rfl) ((f3'.i rfl).i rfl) ⟨H3, by rw [hH']; exact hU, by rw [hH']; exact hl, ?_, u_eq⟩ hT2
          rw [hy']
          exact (u_ne (by omega)).trans u_eq
        refine ⟨_, rfl, fun q2 => fin _ (if_neg q2).symm 0 ?_, fun q2 => fin _ (if_pos q2).symm 1 ?_⟩
        · exact Int32.add_zero _
        · exact nI_1 _
      refine ⟨fun q3 => ?_, fun q3 => ?_⟩
      · exact G S.2.1 m (by rw [if_neg (by rw [h3.mp q3]; decide)]) R3 w f R1 R2 R4 R5
      · have hsv : sv = true := by
          cases z : sv with
          | true => rfl
          | false => exact absurd (h3.mpr z) q3
        refine (rememberM (d := d + 169) w R1 n8 R2 R3).to ?_
        rintro _ m2 ⟨rfl, w2, f2, U2⟩
        exact ⟨rfl, G _ m2 (by rw [if_pos hsv]) (by rw [List.length_take]; omega) w2 (f.tr f2 (RS_sub rfl)) (R1.fx f2 rfl rfl) U2 ((f2.at (nRS (ρ := 31) rfl rfl)).trans R4) ((f2.at (nRS (ρ := 31) rfl rfl)).trans R5)⟩
    · have hσ : σ ≠ ρ := fun z => q (by rw [z])
      have hout : j < snP p ρ ∨ enP p ρ ≤ j := by
        by_cases z : j < snP p ρ
        · exact Or.inl z
        · refine Or.inr (Nat.le_of_not_lt (fun z2 => hσ ?_))
          exact PlnOK.one ⟨a1, a2, a3, a4, a5⟩ b4 hρ b6 b7 (by omega) z2
      rw [nI_1]
      refine ih (j + 1) S m (by omega) w f R ?_
      rw [hT]
      rcases hout with z | z
      · rw [if_pos z]
        by_cases z2 : j + 1 < snP p ρ
        · rw [if_pos z2]
        · rw [if_neg z2, show snP p ρ = j + 1 by omega]
      · have e1 : enP p ρ - (if j < snP p ρ then snP p ρ else j) = 0 := by split <;> omega
        have e2 : enP p ρ - (if j + 1 < snP p ρ then snP p ρ else j + 1) = 0 := by split <;> omega
        rw [e1, e2]
        rfl
end RDM
section RDN
variable {ad : Nat → Nat} {d : Nat} {m m0 : Wm} {v : EV} {p : PLN} {g : GS} {H : List GS}
set_option maxHeartbeats 1000000 in
theorem rdsM (hp : PlnOK v p) {lk sv : Bool} {x3 x4 : Int32} (h3 : x3 = 0 ↔ sv = false) (h4 : x4 = 0 ↔ lk = false) {n fr : Nat} (hn : n ≤ 200) (hfr : fr < 12) {Q : Option Value → Wm → Prop} (T : RSt)
    (hE : EM m0 v) (hP : PlnM m0 p) (K : ∀ m1, WT m1 → Fx (RS [22, 24, 28, 29, 31, 49]) m0 m1 → RdM (nE v) m1 T → Q none m1) :
    ∀ (k i : Nat) (S : RSt) (m : Wm), i + k = n → WT m → Fx (RS [22, 24, 28, 29, 31, 49]) m0 m → RdM (nE v) m S → T = rdsR lk sv v p k ((fr + i) % rdP p) S →
      AW ad E0 μX12_goRounds (d + 171) Q 13 [(0, .ref (ad 187)), (1, .int (nI n)), (2, .int (nI fr)), (3, .int x3), (4, .int x4), (5, .int (nI i))] [] m := by
  intro k
  have hp1 := hp.1
  have hp2 := hp.2.1
  induction k with
  | zero =>
    intro i S m hi w f R hT
    refine g_X12_goRounds_13 (d := d + 170) ⟨fun _ => K m w f ?_, fun c => absurd ((nI_leI (by omega) (by omega)).mpr (by omega)) c⟩
    rw [hT]
    exact R
  | succ k ih =>
    intro i S m hi w f R hT
    have P1 := hP.fx f rfl rfl
    have hl := Nat.mod_lt (fr + i) (show 0 < rdP p by omega)
    refine g_X12_goRounds_13 (d := d + 170) ⟨fun c => absurd ((nI_leI (by omega) (by omega)).mp c) (by omega), fun _ => ?_⟩
    rw [P1.1, nI_add, nI_rem (by omega) (by omega) (by omega)]
    refine ⟨fun z => ?_, ?_⟩
    · have := (nI_eq (a := rdP p) (b := 0) (by omega) (by omega)).mp z
      omega
    · have hT2 : T = rdsR lk sv v p k (nxP p ((fr + i) % rdP p)) (runR lk sv v p (enP p ((fr + i) % rdP p) - snP p ((fr + i) % rdP p)) (snP p ((fr + i) % rdP p)) S) := hT
      rw [← nxP_mod hp rfl] at hT2
      have hg := hp.2.2.1
      refine roundM (d := d) hp h3 h4 hl (runR lk sv v p (enP p ((fr + i) % rdP p) - snP p ((fr + i) % rdP p)) (snP p ((fr + i) % rdP p)) S) (fun m1 w1 f1 R1 => ?_) hE hP (gmP p) 0 S m (by omega) w f R ?_
      · rw [nI_1]
        exact ih (i + 1) _ m1 (by omega) w1 f1 R1 hT2
      · by_cases z : 0 < snP p ((fr + i) % rdP p)
        · rw [if_pos z]
        · rw [if_neg z, show snP p ((fr + i) % rdP p) = 0 by omega]
/-- n rounds from fr on -/
theorem goRoundsM (hp : PlnOK v p) {lk sv : Bool} {x3 x4 : Int32} (h3 : x3 = 0 ↔ sv = false) (h4 : x4 = 0 ↔ lk = false) {n fr : Nat} (hn : n ≤ 200) (hfr : fr < rdP p) (w : WT m) (h : HM (nE v) m g) (U : UnM (nE v) m H) (hl : H.length ≤ 20) (hE : EM m v) (hP : PlnM m p) :
    Ct ad μX12_goRounds (d + 171) [.ref (ad 187), .int (nI n), .int (nI fr), .int x3, .int x4] m (fun r m' => r = none ∧ WT m' ∧ Fx (RS [22, 24, 28, 29, 31, 49]) m m' ∧ RdM (nE v) m' (rdsR lk sv v p n fr (g, H, 0, 0))) := by
  have hp2 := hp.2.1
  have w0 : WT (uI (uI m 187 32 (0 : Int32)) 187 33 (0 : Int32)) := (w.n rfl).n rfl
  have f0 : Fx (RS [22, 24, 28, 29, 31, 49]) m (uI (uI m 187 32 (0 : Int32)) 187 33 (0 : Int32)) := Fx.i (Fx.i Fx.rf rfl) rfl
  refine v_X12_goRounds (d := d + 170) ?_
  refine rdsM (d := d) (m0 := m) hp h3 h4 hn (by omega) (rdsR lk sv v p n fr (g, H, 0, 0)) hE hP (fun m1 w1 f1 R1 => ⟨rfl, w1, f1, R1⟩) n 0 (g, H, 0, 0) _ (by omega) w0 f0 ⟨h, ⟨U.1, fun j hj => (U.2 j hj).k (fun k _ _ => rfl)⟩, hl, rfl, rfl⟩ ?_
  rw [Nat.add_zero, Nat.mod_eq_of_lt hfr]
/-! the class -/
def RdC (m : Wm) (S : RSt) : Prop := HC 21 m S.1 ∧ UnC m S.2.1
theorem playNowC (w : WT m) (h : HC 21 m g) (U : UnC m H) (hE : EC m v) {a e : Nat} (ha : a < 8) (he : e < 8) (hae : a ≠ e) {th : Int32} (ht : th = 0 ∨ th = 1 ∨ th = 2 ∨ th = 3) :
    Ct ad μX11_playNow (d + 6) [.ref (ad 0), .int (nI a), .int (nI e), .int th] m (fun r m' => WT m' ∧ Fx (RS [2, 4, 6, 14, 53]) m m' ∧ r = some (.int (wonG true v a e th g)) ∧ HC 21 m' (goG true v a e th g) ∧ UnC m' ((g :: H).take 20)) := by
  have e44 : (4 : Int32).toNatClampNeg = 4 := rfl
  refine v_X11_playNow (d := d + 5) ((saveC (d := d + 3) w h U).to ?_)
  rintro _ m1 ⟨rfl, w1, f1, U1⟩
  have H1 := h.fx SS_21 f1 rfl
  have E1 := hE.fx f1 rfl
  have go : ∀ s0 : Int32, (s0 = 0 ↔ ¬ byG true v th) → AW ad E0 μX11_playNow (d + 6) (fun r m' => WT m' ∧ Fx (RS [2, 4, 6, 14, 53]) m m' ∧ r = some (.int (wonG true v a e th g)) ∧ HC 21 m' (goG true v a e th g) ∧ UnC m' ((g :: H).take 20)) 32 [(0, .ref (ad 0)), (1, .int (nI a)), (2, .int (nI e)), (3, .int th)] [.int s0] m1 := fun s0 hs => by
    refine AW.mono (playNow32 (d := d) w1 H1 E1 ha he hae ht hs) ?_
    rintro r m2 ⟨w2, f2, rfl, H2⟩
    exact ⟨w2, (Fx.tr (S := RS [2, 4, 6, 14, 53]) Fx.rf f1 (RS_sub rfl)).tr f2 (RS_sub rfl), rfl, H2, U1.fx f2 rfl rfl⟩
  rw [e44]
  have l4 := E1.2.2.2.2.1 4 (by decide)
  rw [l4]
  refine ⟨rfl, fun c => go 0 ⟨fun _ z => z.2.1 c, fun _ => rfl⟩, fun c => ⟨fun n0 => go 0 ⟨fun _ z => n0 z.2.2, fun _ => rfl⟩, fun q0 => go 1 ⟨fun z => absurd z (by decide), fun z => absurd ⟨rfl, c, q0⟩ z⟩⟩⟩
theorem PlnC.fx {S : List Nat} {m' : Wm} (h : PlnC m p) (f : Fx (RS S) m m') (e7 : S.elem 7 = false) (e54 : S.elem 54 = false) : PlnC m' p := by
  obtain ⟨P, Q, hR, h1, h2, h3, h4⟩ := h
  have hPQ := hR.2.2
  have r : ∀ b k, 133 < b → b < 146 → m'.1 b k = m.1 b k := fun b k a1 a2 => f.at (n7 e7 k a1 a2)
  exact ⟨P, Q, hR.fx f e54, (r P 5 (by omega) (by omega)).trans h1, (r P 6 (by omega) (by omega)).trans h2, fun j hj => ⟨(r _ j (by omega) (by omega)).trans (h3 j hj).1, (r _ j (by omega) (by omega)).trans (h3 j hj).2.1, (r _ j (by omega) (by omega)).trans (h3 j hj).2.2⟩, fun ρ hρ => (r _ ρ (by omega) (by omega)).trans (h4 ρ hρ)⟩
theorem PRF.pl {P Q : Nat} (h : PRF m P Q) : m.2.2 0 9 = some P ∧ Pl P ∧ (P = 134 ∨ P = 140) := by
  have := h.2.2
  have hP : P = 134 ∨ P = 140 := by omega
  exact ⟨h.1, Pl_of hP, hP⟩
/-- begin(): where round x begins, behind the last one of all games -/
theorem beginC {P : Nat} (hPl : Pl P) (h1 : m.1 P 5 = nI (rdP p)) (h2 : m.1 P 6 = nI (gmP p)) (h4 : ∀ ρ, ρ < rdP p → m.1 (P + 4) ρ = nI (snP p ρ)) (hr : rdP p ≤ 12) {x : Nat} (hx : x ≤ 12) : Ct ad μX3_begin d [.ref (ad P), .int (nI x)] m (fun r m' => m' = m ∧ r = some (.int (nI (if x < rdP p then snP p x else gmP p)))) := by
  refine v_X3_begin hPl ⟨fun c => absurd ((l_lt 0 0 rfl (by decide) (by omega)).mp c) (by omega), fun _ => ?_⟩
  rw [h1, h2, nI_clamp (by omega)]
  refine ⟨fun c => ⟨rfl, ?_⟩, fun c => ⟨nat_in (by omega) (by decide), rfl, ?_⟩⟩
  · have := (nI_leI (a := rdP p) (b := x) (by omega) (by omega)).mp c
    rw [if_neg (by omega)]
  · have hx2 : x < rdP p := Nat.lt_of_not_le (fun z => c ((nI_leI (a := rdP p) (b := x) (by omega) (by omega)).mpr z))
    rw [if_pos hx2, h4 x hx2]
theorem afterC {P : Nat} (hPl : Pl P) (h1 : m.1 P 5 = nI (rdP p)) (hr : rdP p ≤ 12) {x : Nat} (hx : x ≤ 12) : Ct ad μX3_after d [.ref (ad P), .int (nI x)] m (fun r m' => m' = m ∧ r = some (.int (nI (nxP p x)))) := by
  refine v_X3_after hPl ?_
  rw [h1, nI_1]
  unfold nxP
  refine ⟨fun c => ⟨rfl, ?_⟩, fun c => ⟨rfl, ?_⟩⟩
  · have := (nI_leI (a := rdP p) (b := x + 1) (by omega) (by omega)).mp c
    rw [if_neg (by omega)]
    rfl
  · have hx2 : x + 1 < rdP p := Nat.lt_of_not_le (fun z => c ((nI_leI (a := rdP p) (b := x + 1) (by omega) (by omega)).mpr z))
    rw [if_pos hx2]
def rcQ (m : Wm) (T : RSt) (fr : Nat) (m' : Wm) : Prop := WT m' ∧ Fx (RS [2, 4, 6, 14, 44, 53]) m m' ∧ RdC m' T ∧ m'.1 0 11 = nI fr
set_option maxHeartbeats 2000000 in
/-- a round of the class, from game j on -/
theorem roundC (hp : PlnOK v p) {x1 x4 : Int32} {ρ : Nat} (hρ : ρ < rdP p) {Q : Option Value → Wm → Prop} (T : RSt) (hE : EC m0 v) (hP : PlnC m0 p)
    (K : ∀ m1, rcQ m0 T (nxP p ρ) m1 → AW ad E0 μX11_rounds (d + 7) Q 30 [(0, .ref (ad 0)), (1, .int x1), (2, .int (nI T.2.2.2)), (3, .int (nI T.2.2.1)), (4, .int (x4 + (1 : Int32)))] [] m1) :
    ∀ (n j : Nat) (S : RSt) (m : Wm), j + n = enP p ρ → rcQ m0 S ρ m → T = runR true true v p n j S →
      AW ad E0 μX11_rounds (d + 7) Q 64 [(0, .ref (ad 0)), (1, .int x1), (2, .int (nI S.2.2.2)), (3, .int (nI S.2.2.1)), (4, .int x4), (5, .int (nI (enP p ρ))), (6, .int (nI j))] [] m := by
  intro n
  have hen := hp.en hρ
  obtain ⟨a1, a2, a3, a4, a5⟩ := hp
  induction n with
  | zero =>
    intro j S m hj R hT
    obtain ⟨w, f, ⟨R1, R2⟩, k11⟩ := R
    obtain ⟨P, Q', hR, p1, p2, p3, p4⟩ := hP.fx f rfl rfl
    obtain ⟨q1, q2, q3⟩ := hR.pl
    refine g_X11_rounds_64 (d := d + 6) ⟨fun _ => ⟨P, q1, q2, ?_⟩, fun c => absurd ((nI_leI (by omega) (by omega)).mpr (by omega)) c⟩
    rw [k11]
    refine (afterC (d := d + 6) (p := p) q2 p1 a2 (by omega)).to ?_
    rintro _ m2 ⟨eq, rfl⟩
    obtain rfl := eq.symm
    have hT' : T = S := hT
    rw [← hT']
    refine ⟨_, rfl, K _ ⟨w.n rfl, f.i rfl, ⟨?_, ?_⟩, u_eq⟩⟩
    · rw [hT']; exact R1.o (by omega)
    · rw [hT']; exact R2.fx (S := [44]) ((Fx.rf (m := m)).i rfl) rfl rfl
  | succ n ih =>
    intro j S m hj R hT
    obtain ⟨w, f, ⟨R1, R2⟩, k11⟩ := R
    obtain ⟨P, Q', hR, p1, p2, p3, p4⟩ := hP.fx f rfl rfl
    obtain ⟨q1, q2, q3⟩ := hR.pl
    obtain ⟨b1, b2, b3⟩ := p3 j (by omega)
    obtain ⟨c1, c2, c3, c4⟩ := a5 j (by omega)
    have E1 := hE.fx f rfl
    have n8 := E1.2.2.1
    refine g_X11_rounds_64 (d := d + 6) ⟨fun c => absurd ((nI_leI (by omega) (by omega)).mp c) (by omega), fun _ => ?_⟩
    refine ⟨P, q1, q2, nat_in (by omega) (by decide), P, q1, q2, nat_in (by omega) (by decide), P, q1, q2, nat_in (by omega) (by decide), ?_⟩
    rw [nI_clamp (by omega), b1, b2, b3]
    refine (playNowC (d := d) w R1 R2 E1 (by omega) (by omega) c3 c4).to ?_
    rintro _ m2 ⟨w2, f2, rfl, H2, U2⟩
    have f2' : Fx (RS [2, 4, 6, 14, 44, 53]) m0 m2 := f.tr f2 (RS_sub rfl)
    have k2 : m2.1 0 11 = nI ρ := (f2.at (nRS (ρ := 44) rfl rfl)).trans k11
    have go := ih (j + 1) (stepR true true v p j S) m2 (by omega) ⟨w2, f2', ⟨H2, U2⟩, k2⟩ hT
    refine ⟨_, rfl, fun q => ?_, fun q => ?_⟩
    · rw [nI_1, nI_1]
      have e : (stepR true true v p j S).2.2.1 = S.2.2.1 := if_neg q
      rw [e] at go
      exact go
    · rw [nI_1, nI_1, nI_1]
      have e : (stepR true true v p j S).2.2.1 = S.2.2.1 + 1 := if_pos q
      rw [e] at go
      exact go
def nxI (p : PLN) : Nat → Nat → Nat
  | 0, ρ => ρ
  | k + 1, ρ => nxI p k (nxP p ρ)
theorem nxI_m (hp : PlnOK v p) : ∀ (k x : Nat), nxI p k (x % rdP p) = (x + k) % rdP p := by
  intro k
  induction k with
  | zero => intro x; rfl
  | succ k ih =>
    intro x
    show nxI p k (nxP p (x % rdP p)) = _
    rw [← nxP_mod hp rfl, ih (x + 1), show x + 1 + k = x + (k + 1) by omega]
def rcF (m : Wm) (T : RSt) (fr : Nat) (r : Option Value) (m' : Wm) : Prop := r = some (.int (nI T.2.2.2)) ∧ WT m' ∧ Fx (RS [2, 4, 6, 9, 14, 44, 53]) m m' ∧ RdC m' T ∧ m'.1 0 11 = nI fr
set_option maxHeartbeats 1000000 in
theorem rdsC (hp : PlnOK v p) {n : Nat} (hn : n ≤ 200) (T : RSt) (fr' : Nat) (hE : EC m0 v) (hP : PlnC m0 p) :
    ∀ (k i ρ : Nat) (S : RSt) (m : Wm), i + k = n → ρ < rdP p → rcQ m0 S ρ m → T = rdsR true true v p k ρ S → fr' = nxI p k ρ →
      AW ad E0 μX11_rounds (d + 7) (rcF m0 T fr') 30 [(0, .ref (ad 0)), (1, .int (nI n)), (2, .int (nI S.2.2.2)), (3, .int (nI S.2.2.1)), (4, .int (nI i))] [] m := by
  intro k
  have hp2 := hp.2.1
  induction k with
  | zero =>
    intro i ρ S m hi hρ R hT hf
    have hT' : T = S := hT
    refine g_X11_rounds_30 (d := d + 6) ⟨fun _ => ?_, fun c => absurd ((nI_leI (by omega) (by omega)).mpr (by omega)) c⟩
    obtain ⟨w, f, ⟨R1, R2⟩, k11⟩ := R
    refine (s_X1_total (d := d + 4) w SS_21).to ?_
    rintro _ m1 ⟨w1, f1, v1, rfl⟩
    refine ⟨v1, rfl, (s_X11_tell_ w1).to ?_⟩
    rintro _ m2 ⟨w2, f2, rfl⟩
    refine ⟨rfl, ?_⟩
    rw [← hT'] at R1 R2 ⊢
    refine ⟨rfl, w2, ((Fx.tr (S := RS [2, 4, 6, 9, 14, 44, 53]) Fx.rf f (RS_sub rfl)).tr f1 (RS_sub rfl)).tr f2 (RS_sub rfl), ⟨(R1.fx SS_21 f1 rfl).fx SS_21 f2 rfl, (R2.fx f1 rfl rfl).fx f2 rfl rfl⟩, ?_⟩
    exact (f2.at (nRS (ρ := 44) rfl rfl)).trans ((f1.at (nRS (ρ := 44) rfl rfl)).trans (k11.trans (congrArg nI hf.symm)))
  | succ k ih =>
    intro i ρ S m hi hρ R hT hf
    have R0 := R
    obtain ⟨w, f, ⟨R1, R2⟩, k11⟩ := R
    obtain ⟨P, Q', hR, p1, p2, p3, p4⟩ := hP.fx f rfl rfl
    obtain ⟨q1, q2, q3⟩ := hR.pl
    have hen := hp.en hρ
    refine g_X11_rounds_30 (d := d + 6) ⟨fun c => absurd ((nI_leI (by omega) (by omega)).mp c) (by omega), fun _ => ⟨P, q1, q2, ?_⟩⟩
    rw [k11, nI_1]
    refine (beginC (d := d + 6) (p := p) q2 p1 p2 p4 hp2 (by omega)).to ?_
    rintro _ m2 ⟨eq, rfl⟩
    obtain rfl := eq.symm
    refine ⟨_, rfl, P, q1, q2, ?_⟩
    rw [k11]
    refine (beginC (d := d + 6) (p := p) q2 p1 p2 p4 hp2 (by omega)).to ?_
    rintro _ m2 ⟨eq, rfl⟩
    obtain rfl := eq.symm
    refine ⟨_, rfl, ?_⟩
    rw [if_pos hρ]
    have T1 := roundC (d := d) (x1 := nI n) (x4 := nI i) hp hρ (runR true true v p (enP p ρ - snP p ρ) (snP p ρ) S) hE hP (Q := rcF m0 T fr') (fun m1 R1 => by
      rw [nI_1]
      exact ih (i + 1) (nxP p ρ) _ m1 (by omega) (nxP_lt hp) R1 hT hf) (enP p ρ - snP p ρ) (snP p ρ) S m (by omega) R0 rfl
    exact T1
end RDN
/-! WHAT BOTH ASK: is it a side, an art, are there two unlike ones -/
def YN (P : Prop) (r : Option Value) : Prop := ∃ v : Int32, r = some (.int v) ∧ (v = 0 → ¬ P) ∧ (¬ v = 0 → P)
def InN (n : Nat) (x : Int32) : Prop := 0 ≤ x.toInt ∧ x.toInt < n
theorem InN.of {n : Nat} {x : Int32} (h : InN n x) : ∃ s, s < n ∧ x = nI s := by
  obtain ⟨j, hj, rfl⟩ := zn_of h.1
  have := h.2
  rw [nI_toInt hj] at this
  exact ⟨j, by omega, rfl⟩
theorem InN.nI {n s : Nat} (h : s < n) (hn : n ≤ 1000) : InN n (nI s) := by
  unfold InN
  rw [nI_toInt (by omega)]
  omega
def Two (n : Nat) (x y : Int32) : Prop := InN n x ∧ InN n y ∧ ¬ x = y
section ASK
variable {ad : Nat → Nat} {d n : Nat} {m : Wm} {x y : Int32}
theorem hasC (h : m.1 3 3 = nI n) (hn : n ≤ 8) : Ct ad μX1_has d [.ref (ad 3), .int x] m (fun r m' => m' = m ∧ YN (InN n x) r) := by
  have tn : (nI n).toInt = n := nI_toInt (by omega)
  refine v_X1_has ?_
  rw [h]
  refine ⟨fun c => ⟨rfl, 0, rfl, fun _ q => ?_, fun z => absurd rfl z⟩, fun c => ⟨fun c2 => ⟨rfl, 0, rfl, fun _ q => ?_, fun z => absurd rfl z⟩, fun c2 => ⟨rfl, 1, rfl, fun z => absurd z (by decide), fun _ => ⟨?_, ?_⟩⟩⟩⟩
  · have := y_ltr (n := 0) rfl c; have := q.1; omega
  · have := z_le c2; have := q.2; omega
  · have := y_nltr (n := 0) rfl c; omega
  · have := z_nle c2; omega
theorem knowsC (h : m.1 3 4 = nI n) (hn : n ≤ 8) : Ct ad μX1_knows d [.ref (ad 3), .int x] m (fun r m' => m' = m ∧ YN (InN n x) r) := by
  have tn : (nI n).toInt = n := nI_toInt (by omega)
  refine v_X1_knows ?_
  rw [h]
  refine ⟨fun c => ⟨rfl, 0, rfl, fun _ q => ?_, fun z => absurd rfl z⟩, fun c => ⟨fun c2 => ⟨rfl, 0, rfl, fun _ q => ?_, fun z => absurd rfl z⟩, fun c2 => ⟨rfl, 1, rfl, fun z => absurd z (by decide), fun _ => ⟨?_, ?_⟩⟩⟩⟩
  · have := y_ltr (n := 0) rfl c; have := q.1; omega
  · have := z_le c2; have := q.2; omega
  · have := y_nltr (n := 0) rfl c; omega
  · have := z_nle c2; omega
theorem meetC (h : m.1 3 3 = nI n) (hn : n ≤ 8) : Ct ad μX1_canMeet (d + 1) [.ref (ad 3), .int x, .int y] m (fun r m' => m' = m ∧ YN (Two n x y) r) := by
  refine v_X1_canMeet ((hasC (x := x) h hn).to ?_)
  rintro _ m1 ⟨eq, v1, rfl, a1, a2⟩
  obtain rfl := eq.symm
  refine ⟨v1, rfl, fun c => ⟨rfl, 0, rfl, fun _ q => a1 c q.1, fun z => absurd rfl z⟩, fun c => (hasC (x := y) h hn).to ?_⟩
  rintro _ m1 ⟨eq, v2, rfl, b1, b2⟩
  obtain rfl := eq.symm
  exact ⟨v2, rfl, fun c2 => ⟨rfl, 0, rfl, fun _ q => b1 c2 q.2.1, fun z => absurd rfl z⟩, fun c2 => ⟨fun q => ⟨rfl, 0, rfl, fun _ z => z.2.2 q, fun z => absurd rfl z⟩, fun q => ⟨rfl, 1, rfl, fun z => absurd z (by decide), fun _ => ⟨a2 c, b2 c2, q⟩⟩⟩⟩
theorem sideM (h : m.1 187 1 = nI n) (hn : n ≤ 8) : Ct ad μX12_isSide (d + 1) [.ref (ad 187), .int x] m (fun r m' => m' = m ∧ YN (InN n x) r) := by
  have tn : (nI n).toInt = n := nI_toInt (by omega)
  have t1 := ti_subc (x := nI n) (y := (1 : Int32)) (c := 1) rfl (by omega)
  have z0 : (0 : Int32).toInt = 0 := rfl
  refine (isSide_ok).to ?_
  rintro _ m' ⟨eq, rfl⟩
  rw [h]
  refine ⟨eq, _, rfl, fun c q => ?_, fun c => ?_⟩
  · have := (bz_if rfl).1 c
    exact this ⟨(fa_le _ _).mpr (by rw [z0]; exact q.1), (fa_le _ _).mpr (by have := q.2; omega)⟩
  · have c := (bz_if rfl).2 c
    have c1 := z_le c.1
    have c2 := z_le c.2
    exact ⟨by omega, by omega⟩
theorem knowM (h : m.1 187 0 = nI n) (hn : n ≤ 8) : Ct ad μX12_isArt (d + 1) [.ref (ad 187), .int x] m (fun r m' => m' = m ∧ YN (InN n x) r) := by
  have tn : (nI n).toInt = n := nI_toInt (by omega)
  have t1 := ti_subc (x := nI n) (y := (1 : Int32)) (c := 1) rfl (by omega)
  have z0 : (0 : Int32).toInt = 0 := rfl
  refine (isArt_ok).to ?_
  rintro _ m' ⟨eq, rfl⟩
  rw [h]
  refine ⟨eq, _, rfl, fun c q => ?_, fun c => ?_⟩
  · have := (bz_if rfl).1 c
    exact this ⟨(fa_le _ _).mpr (by rw [z0]; exact q.1), (fa_le _ _).mpr (by have := q.2; omega)⟩
  · have c := (bz_if rfl).2 c
    have c1 := z_le c.1
    have c2 := z_le c.2
    exact ⟨by omega, by omega⟩
theorem twoM (h : m.1 187 1 = nI n) (hn : n ≤ 8) : Ct ad μX12_areTwo (d + 2) [.ref (ad 187), .int x, .int y] m (fun r m' => m' = m ∧ YN (Two n x y) r) := by
  refine v_X12_areTwo (d := d + 1) ((sideM (d := d) (x := x) h hn).to ?_)
  rintro _ m1 ⟨eq, v1, rfl, a1, a2⟩
  obtain rfl := eq.symm
  refine ⟨v1, rfl, fun c => ⟨rfl, 0, rfl, fun _ q => a1 c q.1, fun z => absurd rfl z⟩, fun c => (sideM (d := d) (x := y) h hn).to ?_⟩
  rintro _ m1 ⟨eq, v2, rfl, b1, b2⟩
  obtain rfl := eq.symm
  exact ⟨v2, rfl, fun c2 => ⟨rfl, 0, rfl, fun _ q => b1 c2 q.2.1, fun z => absurd rfl z⟩, fun c2 => ⟨fun q => ⟨rfl, 0, rfl, fun _ z => z.2.2 q, fun z => absurd rfl z⟩, fun q => ⟨rfl, 1, rfl, fun z => absurd z (by decide), fun _ => ⟨a2 c, b2 c2, q⟩⟩⟩⟩
/-- a number from 0 to c -/
theorem inM {lo hi : Int32} {y2 y4 : Int64} (h2 : y2 = lo.toInt64) (h4 : y4 = hi.toInt64) : Ct ad μX12_in d [.long x.toInt64, .long y2, .long y4] m (fun r m' => m' = m ∧ YN (lo.toInt ≤ x.toInt ∧ x.toInt ≤ hi.toInt) r) := by
  refine (in_i h2 h4).to ?_
  rintro _ m' ⟨eq, rfl⟩
  refine ⟨eq, _, rfl, fun c q => (bz_if rfl).1 c ⟨(fa_le _ _).mpr q.1, (fa_le _ _).mpr q.2⟩, fun c => ?_⟩
  have c := (bz_if rfl).2 c
  exact ⟨z_le c.1, z_le c.2⟩
theorem thrM : Ct ad μX12_isThrown (d + 1) [.int x] m (fun r m' => m' = m ∧ YN (0 ≤ x.toInt ∧ x.toInt ≤ 3) r) := by
  refine v_X12_isThrown ((in_i (lo := 0) (hi := 3) rfl rfl).to ?_)
  rintro _ m' ⟨eq, rfl⟩
  have z0 : (0 : Int32).toInt = 0 := rfl
  have z3 : (3 : Int32).toInt = 3 := rfl
  refine ⟨_, rfl, bz_ite, eq, _, rfl, fun c q => (bz_if rfl).1 c ⟨(fa_le _ _).mpr (by omega), (fa_le _ _).mpr (by omega)⟩, fun c => ?_⟩
  have c := (bz_if rfl).2 c
  have := z_le c.1
  have := z_le c.2
  omega
theorem thr_of (h : 0 ≤ x.toInt ∧ x.toInt ≤ 3) : x = 0 ∨ x = 1 ∨ x = 2 ∨ x = 3 := by
  obtain ⟨j, hj, rfl⟩ := zn_of h.1
  have := h.2
  rw [nI_toInt hj] at this
  have : j = 0 ∨ j = 1 ∨ j = 2 ∨ j = 3 := by omega
  rcases this with rfl | rfl | rfl | rfl
  · exact Or.inl rfl
  · exact Or.inr (Or.inl rfl)
  · exact Or.inr (Or.inr (Or.inl rfl))
  · exact Or.inr (Or.inr (Or.inr rfl))
end ASK
/-! WHAT STANDS BETWEEN TWO CALLS: the league in full -/
/-- what is kept, on both sides -/
def KpG (m : Wm) (n : Nat) : Prop := ∀ i, i < 2 → m.1 (173 + 7 * i) 4 ≠ 0 → ∃ (g : GS) (il : Nat → Bool), HC (173 + 7 * i + 1) m g ∧ HL n 214 (71 * i) m g ∧ ZB n g ∧ (∀ s, s < 8 → bt (m.1 (173 + 7 * i) 2) s = il s) ∧ (∀ s, n ≤ s → il s = false) ∧ (∀ s, s < n → m.1 214 (71 * i + 57 + s) = if il s = true then 1 else 0) ∧ m.1 (173 + 7 * i) 3 = m.1 214 (71 * i + 70) ∧ 0 ≤ (m.1 (173 + 7 * i) 3).toInt ∧ (m.1 (173 + 7 * i) 3).toInt ≤ 12
def KGd (m : Wm) (g : GS) (v : EV) (H : List GS) : Prop := HC 21 m g ∧ HM (nE v) m g ∧ EC m v ∧ EM m v ∧ UnC m H ∧ UnM (nE v) m H ∧ ZB (nE v) g ∧ (∀ j, j < H.length → ZB (nE v) (gAt H j)) ∧ KpG m (nE v) ∧ NxR m
def KGc (m : Wm) (g : GS) (v : EV) (H : List GS) : Prop := HC 21 m g ∧ HM (nE v) m g ∧ EC m v ∧ EM m v ∧ UnC m H ∧ UnM (nE v) m H ∧ ZB (nE v) g ∧ (∀ j, j < H.length → ZB (nE v) (gAt H j)) ∧ KpG m (nE v)
def KG (m : Wm) : Prop := ∃ g v H, KGd m g v H
def KGL : List Nat := [1, 4, 6, 13, 23, 24, 25, 29, 40, 41, 42, 43, 44, 46, 47, 48, 49, 52, 53]
/-- without where the plan is -/
def KGN : List Nat := [1, 4, 6, 13, 23, 24, 29, 40, 41, 42, 43, 46, 47, 48, 49, 53]
section KGS
variable {ad : Nat → Nat} {d n : Nat} {m m' m1 m2 : Wm} {g : GS} {v : EV} {H : List GS} {S S1 S2 A B : List Nat}
theorem KpG.fx (h : KpG m n) (f : Fx (RS S) m m') (e13 : S.elem 13 = false) (e40 : S.elem 40 = false) : KpG m' n := fun i hi hz => by
  have r : ∀ b k, 173 ≤ b → b < 187 → m'.1 b k = m.1 b k := fun b k h1 h2 => f.at (nRS (ρ := 13) e13 (rg_13 k h1 h2))
  have q : ∀ k, m'.1 214 k = m.1 214 k := fun k => f.at (nRS (ρ := 40) e40 rfl)
  rw [r _ 4 (by omega) (by omega)] at hz
  obtain ⟨g, il, h1, h2, h3, h4, h4b, h4c, h5, h6⟩ := h i hi hz
  rw [r (173 + 7 * i) 3 (by omega) (by omega)]
  refine ⟨g, il, h1.fx (SS_i hi) f e13, h2.k (fun k _ _ => q k), h3, fun s hs => ?_, h4b, fun s hs => (q _).trans (h4c s hs), h5.trans (q _).symm, h6⟩
  rw [r (173 + 7 * i) 2 (by omega) (by omega)]
  exact h4 s hs
theorem KGc.fx (h : KGc m g v H) (f : Fx (RS S) m m') (e : (S.all fun x => !(KGN.elem x)) = true) : KGc m' g v H := by
  obtain ⟨h1, h2, h3, h4, h5, h6, h7, h8, h9⟩ := h
  have q : ∀ ρ, KGN.elem ρ = true → S.elem ρ = false := fun ρ hρ => all_ne e hρ
  have a1 : (S.all fun x => !(([1, 41, 42, 43] : List Nat).elem x)) = true := List.all_eq_true.mpr (fun x hx => by
    have := List.all_eq_true.mp e x hx
    cases c : ([1, 41, 42, 43] : List Nat).elem x with
    | false => rfl
    | true =>
      have hm := List.mem_of_elem_eq_true c
      have : x = 1 ∨ x = 41 ∨ x = 42 ∨ x = 43 := by simpa using hm
      rcases this with rfl | rfl | rfl | rfl <;> exact absurd this (by decide))
  have a2 : (S.all fun x => !(([23, 46, 47, 48] : List Nat).elem x)) = true := List.all_eq_true.mpr (fun x hx => by
    have := List.all_eq_true.mp e x hx
    cases c : ([23, 46, 47, 48] : List Nat).elem x with
    | false => rfl
    | true =>
      have hm := List.mem_of_elem_eq_true c
      have : x = 23 ∨ x = 46 ∨ x = 47 ∨ x = 48 := by simpa using hm
      rcases this with rfl | rfl | rfl | rfl <;> exact absurd this (by decide))
  exact ⟨h1.fx SS_21 f (q 4 rfl), h2.fx f (q 24 rfl) (q 49 rfl), h3.fx f a1, h4.fx f a2, h5.fx f (q 6 rfl) (q 53 rfl), h6.fx f (q 29 rfl), h7, h8, h9.fx f (q 13 rfl) (q 40 rfl)⟩
theorem KGd.of (h : KGc m g v H) (n : NxR m) : KGd m g v H := ⟨h.1, h.2.1, h.2.2.1, h.2.2.2.1, h.2.2.2.2.1, h.2.2.2.2.2.1, h.2.2.2.2.2.2.1, h.2.2.2.2.2.2.2.1, h.2.2.2.2.2.2.2.2, n⟩
theorem KGd.cc (h : KGd m g v H) : KGc m g v H := ⟨h.1, h.2.1, h.2.2.1, h.2.2.2.1, h.2.2.2.2.1, h.2.2.2.2.2.1, h.2.2.2.2.2.2.1, h.2.2.2.2.2.2.2.1, h.2.2.2.2.2.2.2.2.1⟩
theorem KGd.nx (h : KGd m g v H) : NxR m := h.2.2.2.2.2.2.2.2.2
theorem KGL_N {S : List Nat} (e : (S.all fun x => !(KGL.elem x)) = true) : (S.all fun x => !(KGN.elem x)) = true := List.all_eq_true.mpr (fun x hx => by
  have h1 := List.all_eq_true.mp e x hx
  cases c : KGN.elem x with
  | false => rfl
  | true =>
    have hm := List.mem_of_elem_eq_true c
    have hA : ∀ y ∈ KGN, y ∈ KGL := by decide
    rw [List.elem_eq_true_of_mem (hA x hm)] at h1
    exact absurd h1 (by decide))
theorem KGd.fx (h : KGd m g v H) (f : Fx (RS S) m m') (e : (S.all fun x => !(KGL.elem x)) = true) : KGd m' g v H := KGd.of (h.cc.fx f (KGL_N e)) (h.nx.fx f (all_ne e (ρ := 44) rfl) (all_ne e (ρ := 52) rfl) (all_ne e (ρ := 25) rfl))
theorem KG.fx (h : KG m) (f : Fx (RS S) m m') (e : (S.all fun x => !(KGL.elem x)) = true) : KG m' := by
  obtain ⟨g, v, H, h⟩ := h
  exact ⟨g, v, H, h.fx f e⟩
theorem KG.tr (a : (A.all fun x => !(KGL.elem x)) = true) (b : (B.all fun x => !(KGL.elem x)) = true) : TR A B KG KG := fun f1 f2 k => (k.fx f1 a).fx f2 b
theorem KG.trn (a : (A.all fun x => !(KGN.elem x)) = true) (b : (B.all fun x => !(KGN.elem x)) = true) : TRN A B KG KG := fun {m m1 m2} f1 f2 hn k => by
  obtain ⟨g, v, H, h⟩ := k
  exact ⟨g, v, H, KGd.of ((h.cc.fx f1 a).fx f2 b) (hn h.nx)⟩
end KGS
/-! CALLS: skill, odds, game, play, undo, seed -/
theorem upd_at {f : Nat → Int32} {i k : Nat} {x : Int32} : upd f i x k = if k = i then x else f k := rfl
section ZBG
variable {v : EV} {g : GS} {n a e f t : Nat}
theorem ZB.tch {cn : Bool} (h : ZB n g) (hf : f < n) (ht : t < n) (ha : aE v ≤ 4) : ZB n (tchG cn v f t g) := by
  unfold tchG
  by_cases c : artG g.1 f t (aE v) = -1
  · rw [if_pos c]; exact h
  · rw [if_neg c]
    rcases artG_of (s := g.1) (f := f) (t := t) (n := aE v) with q | ⟨j, hj, q⟩
    · exact absurd q c
    rw [q, nI_clamp (by omega)]
    intro k h1 h2
    show upd (upd g.1 (4 * t + j) _) (4 * f + j) _ k = 0
    rw [upd_at, if_neg (by omega), upd_at, if_neg (by omega)]
    exact h k h1 h2
theorem ZB.stl {cn : Bool} {won : Int32} (h : ZB n g) (ha : a < n) (he : e < n) (hr : aE v ≤ 4) : ZB n (stlG cn v a e won g) := by
  have hp : ZB n (if cn = true then ptG a e won g else g) := by
    by_cases c : cn = true
    · rw [if_pos c]; exact h
    · rw [if_neg c]; exact h
  unfold stlG
  by_cases c2 : won = 2
  · rw [if_pos c2]; exact hp
  · rw [if_neg c2]
    generalize (if cn = true then ptG a e won g else g) = g1 at hp
    have hw : (if won = 0 then a else e) < n := by split <;> assumption
    have hl : (if won = 0 then e else a) < n := by split <;> assumption
    have h1 : ZB n (stl1 cn v (if won = 0 then a else e) (if won = 0 then e else a) g1) := by
      unfold stl1
      by_cases c : lE v 0 = 0 ∨ lE v 0 = 2
      · rw [if_pos c]; exact hp.tch hw hl hr
      · rw [if_neg c]; exact hp
    unfold stl2
    by_cases c : lE v 0 = 1 ∨ lE v 0 = 2
    · rw [if_pos c]; exact h1.tch hl hw hr
    · rw [if_neg c]; exact h1
theorem ZB.of {g' : GS} (h : ZB n g) (e : g'.1 = g.1) : ZB n g' := fun k h1 h2 => (congrFun e k).trans (h k h1 h2)
theorem ZB.go {lk : Bool} {th : Int32} (h : ZB n g) (ha : a < n) (he : e < n) (hr : aE v ≤ 4) : ZB n (goG lk v a e th g) := by
  unfold goG
  refine ZB.stl ?_ ha he hr
  have e1 : ∀ g' : GS, (thG th a e g').1 = g'.1 := fun g' => by
    unfold thG
    dsimp only
  have e2 : (drwG lk v th g).1 = g.1 := by
    unfold drwG
    by_cases c : byG lk v th
    · rw [if_pos c]
    · rw [if_neg c]
  exact ZB.of h ((e1 _).trans e2)
theorem ZB.take {H : List GS} (h : ZB n g) (hH : ∀ j, j < H.length → ZB n (gAt H j)) : ∀ j, j < ((g :: H).take 20).length → ZB n (gAt ((g :: H).take 20) j) := by
  intro j hj
  rw [List.length_take, List.length_cons] at hj
  rw [gAt_take _ _ _ (by omega)]
  cases j with
  | zero => exact h
  | succ j => exact hH j (by omega)
end ZBG
section OPG
variable {ad : Nat → Nat} {d : Nat} {m : Wm} {g : GS} {v : EV} {H : List GS}
theorem og_skill (c : Nat) (a b : Int32) : Both ad d μX11_skill μX12_skill [.int a, .int b] (InvK (KX KG c)) (InvK (KX KG (c + 1))) := fun m I => by
  obtain ⟨w, I1, ⟨g, v, H, kd⟩, kb⟩ := I
  have kd0 := kd
  obtain ⟨hc, hm, ec, em, -⟩ := kd0
  have n8 := ec.2.2.1
  have a4 := ec.2.2.2.1
  have f0 : Fx (RS [20]) m (uI m 187 17 0) := Fx.rf.i rfl
  have J : InvK (KX KG (c + 1)) (uI m 187 17 0) := ⟨w.n rfl, I1.f2 (Fx.rf (S := RS [])) f0 rfl rfl, ⟨g, v, H, kd.fx f0 rfl⟩, KB.fd c (Fx.rf (S := RS [])) f0 kb rfl rfl⟩
  have hm0 : HM (nE v) (uI m 187 17 0) g := hm
  have e1 : (uI m 187 17 0).1 187 1 = nI (nE v) := em.1
  have e0 : (uI m 187 17 0).1 187 0 = nI (aE v) := em.2.1
  by_cases P : InN (nE v) a ∧ InN (aE v) b
  · obtain ⟨s, hs, rfl⟩ := P.1.of
    obtain ⟨k, hk, rfl⟩ := P.2.of
    refine v_X11_skill (d := d + 299) ((hasC ec.1 n8).to ?_)
    rintro _ m1 ⟨eq, v1, rfl, y1, y2⟩
    obtain rfl := eq.symm
    refine ⟨v1, rfl, fun z => absurd P.1 (y1 z), fun _ => (knowsC ec.2.1 (by omega)).to ?_⟩
    rintro _ m1 ⟨eq, v2, rfl, y3, y4⟩
    obtain rfl := eq.symm
    refine ⟨v2, rfl, fun z => absurd P.2 (y3 z), fun _ => (skillC SS_21 hc (by omega) (by omega)).to ?_⟩
    rintro _ m1 ⟨eq, rfl⟩
    obtain rfl := eq.symm
    refine ⟨_, rfl, _, rfl, v_X12_skill (d := d + 299) ((sideM (d := d + 298) e1 n8).to ?_)⟩
    rintro _ m1 ⟨eq, v3, rfl, z1, z2⟩
    obtain rfl := eq.symm
    refine ⟨v3, rfl, fun z => absurd P.1 (z1 z), fun _ => (knowM (d := d + 298) e0 (by omega)).to ?_⟩
    rintro _ m1 ⟨eq, v4, rfl, z3, z4⟩
    obtain rfl := eq.symm
    refine ⟨v4, rfl, fun z => absurd P.2 (z3 z), fun _ => ?_⟩
    rw [m_ix, nI_clamp (by omega), hm0.1 (4 * s + k) (by omega)]
    exact ⟨nat_in (by omega) (by decide), rfl, J⟩
  · have hM : Ct ad μX12_skill (d + 300) [.ref (ad 187), .int a, .int b] m (fun r m2 => r = some (.int (-1)) ∧ InvK (KX KG (c + 1)) m2) := by
      refine v_X12_skill (d := d + 299) ((sideM (d := d + 298) e1 n8).to ?_)
      rintro _ m1 ⟨eq, v3, rfl, z1, z2⟩
      obtain rfl := eq.symm
      refine ⟨v3, rfl, fun _ => ⟨rfl, J⟩, fun q => (knowM (d := d + 298) e0 (by omega)).to ?_⟩
      rintro _ m1 ⟨eq, v4, rfl, z3, z4⟩
      obtain rfl := eq.symm
      exact ⟨v4, rfl, fun _ => ⟨rfl, J⟩, fun q2 => absurd ⟨z2 q, z4 q2⟩ P⟩
    refine v_X11_skill (d := d + 299) ((hasC ec.1 n8).to ?_)
    rintro _ m1 ⟨eq, v1, rfl, y1, y2⟩
    obtain rfl := eq.symm
    refine ⟨v1, rfl, fun z => ⟨_, rfl, hM⟩, fun q => (knowsC ec.2.1 (by omega)).to ?_⟩
    rintro _ m1 ⟨eq, v2, rfl, y3, y4⟩
    obtain rfl := eq.symm
    exact ⟨v2, rfl, fun z => ⟨_, rfl, hM⟩, fun q2 => absurd ⟨y2 q, y4 q2⟩ P⟩
theorem og_odds (c : Nat) (a b : Int32) : Both ad d μX11_odds μX12_odds [.int a, .int b] (InvK (KX KG c)) (InvK (KX KG (c + 1))) := fun m I => by
  obtain ⟨w, I1, ⟨g, v, H, kd⟩, kb⟩ := I
  have kd0 := kd
  obtain ⟨hc, hm, ec, em, -⟩ := kd0
  have n8 := ec.2.2.1
  by_cases P : Two (nE v) a b
  · obtain ⟨s, hs, rfl⟩ := P.1.of
    obtain ⟨t, ht, rfl⟩ := P.2.1.of
    refine v_X11_odds (d := d + 299) ((meetC (d := d + 298) ec.1 n8).to ?_)
    rintro _ m1 ⟨eq, v1, rfl, y1, y2⟩
    obtain rfl := eq.symm
    refine ⟨v1, rfl, fun z => absurd P (y1 z), fun _ => (chanceC (d := d + 295) SS_21 (Or.inr (Or.inl rfl)) w hc ec (by omega) (by omega)).to ?_⟩
    rintro _ m1 ⟨w1, f1, rfl⟩
    have f0 : Fx (RS [20]) m1 (uI m1 187 17 0) := Fx.rf.i rfl
    have f01 : Fx (RS [14]) m m1 := f1
    have hm0 : HM (nE v) (uI m1 187 17 0) g := by
      have h := hm.fx f1 rfl rfl
      exact h
    have em0 : EM (uI m1 187 17 0) v := (em.fx f1 rfl).fx f0 rfl
    refine ⟨_, rfl, _, rfl, v_X12_odds (d := d + 299) ((twoM (d := d + 297) em0.1 n8).to ?_)⟩
    rintro _ m2 ⟨eq, v3, rfl, z1, z2⟩
    obtain rfl := eq.symm
    refine ⟨v3, rfl, fun z => absurd P (z1 z), fun _ => (chanceM (d := d + 130) (w1.n rfl) hm0 em0 hs ht).to ?_⟩
    rintro _ m2 ⟨w2, f2, rfl⟩
    have f2' : Fx (RS [20, 22, 28]) m1 m2 := (Fx.tr Fx.rf f0 (RS_sub rfl)).tr f2 (RS_sub rfl)
    exact ⟨_, rfl, rfl, w2, I1.f2 f1 f2' rfl rfl, ⟨g, v, H, (kd.fx f1 rfl).fx f2' rfl⟩, KB.fd c f1 f2' kb rfl rfl⟩
  · have f0 : Fx (RS [20]) m (uI m 187 17 0) := Fx.rf.i rfl
    have J : InvK (KX KG (c + 1)) (uI m 187 17 0) := ⟨w.n rfl, I1.f2 (Fx.rf (S := RS [])) f0 rfl rfl, ⟨g, v, H, kd.fx f0 rfl⟩, KB.fd c (Fx.rf (S := RS [])) f0 kb rfl rfl⟩
    have e1 : (uI m 187 17 0).1 187 1 = nI (nE v) := em.1
    refine v_X11_odds (d := d + 299) ((meetC (d := d + 298) ec.1 n8).to ?_)
    rintro _ m1 ⟨eq, v1, rfl, y1, y2⟩
    obtain rfl := eq.symm
    refine ⟨v1, rfl, fun z => ⟨_, rfl, v_X12_odds (d := d + 299) ((twoM (d := d + 297) e1 n8).to ?_)⟩, fun q => absurd (y2 q) P⟩
    rintro _ m2 ⟨eq, v3, rfl, z1, z2⟩
    obtain rfl := eq.symm
    exact ⟨v3, rfl, fun _ => ⟨rfl, J⟩, fun q => absurd (z2 q) P⟩
theorem og_seed (c : Nat) (a : Int32) : Both ad d μX11_seed μX12_seed [.int a] (InvK (KX KG c)) (InvK (KX KG (c + 1))) := fun m I => by
  obtain ⟨w, I1, ⟨g, v, H, kd⟩, kb⟩ := I
  obtain ⟨hc, hm, ec, em, uc, um, zb, zh, kp, nx⟩ := kd
  have f1 : Fx (RS [4]) m (uI m 21 4 a) := Fx.rf.i rfl
  have f2 : Fx (RS [20, 49]) (uI m 21 4 a) (uI (uI (uI m 21 4 a) 187 17 0) 187 8 a) := Fx.i (Fx.i Fx.rf rfl) rfl
  refine v_X11_seed ⟨_, rfl, v_X12_seed ?_⟩
  have e8 : (uI (uI m 21 4 a) 187 17 0).1 187 8 = g.2.2.2.2 := hm.2.2.2.2
  rw [e8, hc.2.2.2.2]
  refine ⟨rfl, (w.n rfl).n rfl |>.n rfl, I1.f2 f1 f2 rfl rfl, ⟨(g.1, g.2.1, g.2.2.1, g.2.2.2.1, a), v, H, hc.lu.fx SS_21 f2 rfl, ?_, (ec.fx f1 rfl).fx f2 rfl, (em.fx f1 rfl).fx f2 rfl, (uc.fx f1 rfl rfl).fx f2 rfl rfl, (um.fx f1 rfl).fx f2 rfl, zb, zh, (kp.fx f1 rfl rfl).fx f2 rfl rfl, (nx.fx f1 rfl rfl rfl).fx f2 rfl rfl rfl⟩, KB.fd c f1 f2 kb rfl rfl⟩
  exact ⟨hm.1, hm.2.1, hm.2.2.1, hm.2.2.2.1, u_eq⟩
theorem og_undo (c : Nat) : Both ad d μX11_undo μX12_undo [] (InvK (KX KG c)) (InvK (KX KG (c + 1))) := fun m I => by
  obtain ⟨w, I1, ⟨g, v, H, kd⟩, kb⟩ := I
  obtain ⟨hc, hm, ec, em, uc, um, zb, zh, kp, nx⟩ := kd
  have hl := uc.1
  have n8 := ec.2.2.1
  refine v_X11_undo (d := d + 299) ((backC (d := d + 297) w uc).to ?_)
  rintro _ m1 ⟨w1, f1, ⟨hH, rfl, e⟩ | ⟨g', H', hH, rfl, hc1, uc1⟩⟩
  · subst e
    refine ⟨0, rfl, fun _ => ⟨_, rfl, (undoM (d := d + 299) w hm n8 um hl).to ?_⟩, fun z => absurd rfl z⟩
    rintro _ m2 ⟨w2, f2, ⟨-, rfl, hm2, um2⟩ | ⟨g', H', hH', -⟩⟩
    · exact ⟨rfl, w2, I1.f2 (Fx.rf (S := RS [])) f2 rfl rfl, ⟨g, v, H, hc.fx SS_21 f2 rfl, hm2, ec.fx f2 rfl, em.fx f2 rfl, uc.fx f2 rfl rfl, um2, zb, zh, kp.fx f2 rfl rfl, nx.fx f2 rfl rfl rfl⟩, KB.fd c (Fx.rf (S := RS [])) f2 kb rfl rfl⟩
    · rw [hH] at hH'; cases hH'
  · refine ⟨1, rfl, fun z => absurd z (by decide), fun _ => ⟨_, rfl, (undoM (d := d + 299) w1 (hm.fx f1 rfl rfl) n8 (um.fx f1 rfl) hl).to ?_⟩⟩
    rintro _ m2 ⟨w2, f2, ⟨hH', -⟩ | ⟨g2, H2, hH', rfl, hm2, um2⟩⟩
    · rw [hH] at hH'; cases hH'
    · rw [hH] at hH'
      obtain ⟨rfl, rfl⟩ := List.cons.inj hH'
      have zH : ∀ j, j < H'.length + 1 → ZB (nE v) (gAt (g' :: H') j) := fun j hj => by rw [← hH]; exact zh j (by rw [hH, List.length_cons]; exact hj)
      exact ⟨congrArg (fun z => some (Value.int z)) uc1.2.1.symm, w2, I1.f2 f1 f2 rfl rfl, ⟨g', v, H', hc1.fx SS_21 f2 rfl, hm2, (ec.fx f1 rfl).fx f2 rfl, (em.fx f1 rfl).fx f2 rfl, uc1.fx f2 rfl rfl, um2, zH 0 (by omega), fun j hj => zH (j + 1) (by omega), (kp.fx f1 rfl rfl).fx f2 rfl rfl, (nx.fx f1 rfl rfl rfl).fx f2 rfl rfl rfl⟩, KB.fd c f1 f2 kb rfl rfl⟩
theorem og_play (c : Nat) (a b th : Int32) : Both ad d μX11_play μX12_play [.int a, .int b, .int th] (InvK (KX KG c)) (InvK (KX KG (c + 1))) := fun m I => by
  obtain ⟨w, I1, ⟨g, v, H, kd⟩, kb⟩ := I
  have kd0 := kd
  obtain ⟨hc, hm, ec, em, uc, um, zb, zh, kp, nx⟩ := kd0
  have n8 := ec.2.2.1
  have hl := uc.1
  have z3 : (3 : Int32).toInt = 3 := rfl
  have z0 : (0 : Int32).toInt = 0 := rfl
  by_cases P : Two (nE v) a b ∧ (0 ≤ th.toInt ∧ th.toInt ≤ 3)
  · obtain ⟨P1, P2⟩ := P
    have P0 := P1
    obtain ⟨s, hs, rfl⟩ := P1.1.of
    obtain ⟨t, ht, rfl⟩ := P1.2.1.of
    have hst : s ≠ t := fun q => P1.2.2 (by rw [q])
    have hth := thr_of P2
    refine v_X11_play (d := d + 299) ((meetC (d := d + 298) ec.1 n8).to ?_)
    rintro _ m1 ⟨eq, v1, rfl, y1, y2⟩
    obtain rfl := eq.symm
    refine ⟨v1, rfl, fun z => absurd P0 (y1 z), fun _ => ⟨fun q => absurd (y_ltr (n := 0) rfl q) (by omega), fun _ => ⟨fun _ => (playNowC (d := d + 293) w hc uc ec (by omega) (by omega) hst hth).to ?_, fun q => absurd (z_nle q) (by omega)⟩⟩⟩
    rintro _ m1 ⟨w1, f1, rfl, hc1, uc1⟩
    refine ⟨_, rfl, nat_in (by omega) (by decide), nat_in (by omega) (by decide), (s_X11_tell_ w1).to ?_⟩
    rintro _ m2 ⟨w2, f2, rfl⟩
    have f12 : Fx (RS [2, 4, 6, 9, 14, 53]) m m2 := (Fx.tr Fx.rf f1 (RS_sub rfl)).tr f2 (RS_sub rfl)
    have w3 : WT (uI m2 187 17 0) := w2.n rfl
    have hm3 : HM (nE v) (uI m2 187 17 0) g := by
      have h := hm.fx f12 rfl rfl
      exact h
    have em3 : EM (uI m2 187 17 0) v := by
      have h := em.fx f12 rfl
      exact h
    have um3 : UnM (nE v) (uI m2 187 17 0) H := ⟨(um.fx f12 rfl).1, fun j hj => ((um.fx f12 rfl).2 j hj).k (fun k _ _ => rfl)⟩
    have f03 : Fx (RS [20, 22, 24, 26, 28, 29, 49]) m2 (uI m2 187 17 0) := Fx.rf.i rfl
    refine ⟨rfl, _, rfl, v_X12_play (d := d + 299) ((twoM (d := d + 297) em3.1 n8).to ?_)⟩
    rintro _ m3 ⟨eq, v3, rfl, x1, x2⟩
    obtain rfl := eq.symm
    refine ⟨v3, rfl, fun z => absurd P0 (x1 z), fun _ => (thrM (d := d + 298)).to ?_⟩
    rintro _ m3 ⟨eq, v4, rfl, x3, x4⟩
    obtain rfl := eq.symm
    refine ⟨v4, rfl, fun _ => (rememberM (d := d + 298) w3 hm3 n8 um3 hl).to ?_, fun z => absurd P2 (x3 z)⟩
    rintro _ m4 ⟨rfl, w4, f4, um4⟩
    refine ⟨rfl, (goGameM (d := d + 129) (lk := true) w4 (hm3.fx f4 rfl rfl) (em3.fx f4 rfl) hs ht hst hth (by decide)).to ?_⟩
    rintro _ m5 ⟨w5, f5, rfl, hm5⟩
    have w6 : WT (uI m5 187 16 (0 : Int32)) := w5.t rfl (by decide) (by decide)
    refine ⟨_, rfl, nat_in (by omega) (by decide), (s_X12_tell w6 (by rw [u_eq]; decide)).to ?_⟩
    rintro _ m7 ⟨w7, f7, rfl, p7⟩
    have p7' : (m7.1 187 16).toInt = 0 + 1 := p7
    refine ⟨rfl, nat_in (by omega) (by decide), (s_X12_tell w7 (by omega)).to ?_⟩
    rintro _ m8 ⟨w8, f8, rfl, -⟩
    have f56 : Fx (RS [26]) m5 (uI m5 187 16 (0 : Int32)) := Fx.rf.i rfl
    have f68 : Fx (RS [26]) m5 m8 := (f56.tr f7 (RS_sub rfl)).tr f8 (RS_sub rfl)
    have F2 : Fx (RS [20, 22, 24, 26, 28, 29, 49]) m2 m8 := ((f03.tr f4 (RS_sub rfl)).tr f5 (RS_sub rfl)).tr f68 (RS_sub rfl)
    have a4 := ec.2.2.2.1
    exact ⟨rfl, rfl, w8, I1.f2 f12 F2 rfl rfl, ⟨goG true v s t th g, v, (g :: H).take 20, (hc1.fx SS_21 f2 rfl).fx SS_21 F2 rfl, hm5.fx f68 rfl rfl, (ec.fx f12 rfl).fx F2 rfl, (em.fx f12 rfl).fx F2 rfl, (uc1.fx f2 rfl rfl).fx F2 rfl rfl, (um4.fx f5 rfl).fx f68 rfl, zb.go hs ht a4, zb.take zh, (kp.fx f12 rfl rfl).fx F2 rfl rfl, (nx.fx f12 rfl rfl rfl).fx F2 rfl rfl rfl⟩, KB.fd c f12 F2 kb rfl rfl⟩
  · have f0 : Fx (RS [20]) m (uI m 187 17 0) := Fx.rf.i rfl
    have J : InvK (KX KG (c + 1)) (uI m 187 17 0) := ⟨w.n rfl, I1.f2 (Fx.rf (S := RS [])) f0 rfl rfl, ⟨g, v, H, kd.fx f0 rfl⟩, KB.fd c (Fx.rf (S := RS [])) f0 kb rfl rfl⟩
    have e1 : (uI m 187 17 0).1 187 1 = nI (nE v) := em.1
    have hM : Ct ad μX12_play (d + 300) [.ref (ad 187), .int a, .int b, .int th] m (fun r m2 => r = some (.int (-1)) ∧ InvK (KX KG (c + 1)) m2) := by
      refine v_X12_play (d := d + 299) ((twoM (d := d + 297) e1 n8).to ?_)
      rintro _ m2 ⟨eq, v3, rfl, x1, x2⟩
      obtain rfl := eq.symm
      refine ⟨v3, rfl, fun _ => ⟨rfl, J⟩, fun q => (thrM (d := d + 298)).to ?_⟩
      rintro _ m2 ⟨eq, v4, rfl, x3, x4⟩
      obtain rfl := eq.symm
      exact ⟨v4, rfl, fun q2 => absurd ⟨x2 q, x4 q2⟩ P, fun _ => ⟨rfl, J⟩⟩
    refine v_X11_play (d := d + 299) ((meetC (d := d + 298) ec.1 n8).to ?_)
    rintro _ m1 ⟨eq, v1, rfl, y1, y2⟩
    obtain rfl := eq.symm
    refine ⟨v1, rfl, fun z => ⟨_, rfl, hM⟩, fun q => ⟨fun _ => ⟨_, rfl, hM⟩, fun q2 => ⟨fun q3 => absurd ⟨y2 q, ?_⟩ P, fun _ => ⟨_, rfl, hM⟩⟩⟩⟩
    have := y_nltr (n := 0) rfl q2
    have := z_le q3
    omega
end OPG
/-! CALLS: rounds -/
section ZBR
variable {v : EV} {p : PLN} {lk sv : Bool} {n : Nat}
def ZR (n : Nat) (S : RSt) : Prop := ZB n S.1 ∧ ∀ j, j < S.2.1.length → ZB n (gAt S.2.1 j)
theorem ZR.run (hp : PlnOK v p) (ha : aE v ≤ 4) : ∀ (k j : Nat) (S : RSt), j + k ≤ gmP p → ZR (nE v) S → ZR (nE v) (runR lk sv v p k j S) := by
  intro k
  induction k with
  | zero => intro j S _ h; exact h
  | succ k ih =>
    intro j S hj h
    obtain ⟨c1, c2, c3, c4⟩ := hp.2.2.2.2 j (by omega)
    refine ih (j + 1) (stepR lk sv v p j S) (by omega) ⟨h.1.go c1 c2 ha, ?_⟩
    show ∀ i, i < (if sv = true then (S.1 :: S.2.1).take 20 else S.2.1).length → ZB (nE v) (gAt (if sv = true then (S.1 :: S.2.1).take 20 else S.2.1) i)
    by_cases q : sv = true
    · rw [if_pos q]; exact h.1.take h.2
    · rw [if_neg q]; exact h.2
theorem ZR.rds (hp : PlnOK v p) (ha : aE v ≤ 4) : ∀ (k ρ : Nat) (S : RSt), ρ < rdP p → ZR (nE v) S → ZR (nE v) (rdsR lk sv v p k ρ S) := by
  intro k
  induction k with
  | zero => intro ρ S _ h; exact h
  | succ k ih =>
    intro ρ S hρ h
    have he := hp.en hρ
    exact ih _ _ (nxP_lt hp) (ZR.run hp ha _ _ _ (by omega) h)
end ZBR
section OPR
variable {ad : Nat → Nat} {d : Nat} {m : Wm} {g : GS} {v : EV} {H : List GS}
/-- a plan of both sides as one that can be played -/
theorem pln_of (h : PlR m) (ec : EC m v) (h0 : m.1 187 11 ≠ 0) : ∃ p, PlnOK v p ∧ PlnC m p ∧ PlnM m p := by
  obtain ⟨P, Q, hR, n, R, gN, sn, x1, x2, x3, x4, x5, x6, x7, x8, x9, x10, x11, x12⟩ := h
  have hn : n = nE v := (nI_eq (a := n) (b := nE v) (by omega) (by have := ec.2.2.1; omega)).mp (x1.symm.trans ec.1)
  subst hn
  have hR0 : R ≠ 0 := fun z => h0 (by rw [x4, z]; rfl)
  have nn : ∀ x : Int32, 0 ≤ x.toInt → x.toInt < (nE v : Int) → x = nI x.toNatClampNeg ∧ x.toNatClampNeg < nE v := fun x a b => by
    obtain ⟨j, hj, rfl⟩ := zn_of a
    rw [nI_toInt hj] at b
    rw [nI_clamp hj]
    exact ⟨rfl, by omega⟩
  refine ⟨((fun j => (m.1 (P + 1) j).toNatClampNeg), (fun j => (m.1 (P + 2) j).toNatClampNeg), m.1 (P + 3), sn, R, gN), ⟨by show 1 ≤ R; omega, x7, x8, x11, fun j hj => ?_⟩, ⟨P, Q, hR, x3, x5, fun j hj => ?_, x12⟩, x4, x6, fun j hj => ?_⟩
  · obtain ⟨a1, a2, a3, a4, a5, a6, a7, -⟩ := x10 j hj
    have b1 := nn _ a4.1 a4.2
    have b2 := nn _ a5.1 a5.2
    refine ⟨b1.2, b2.2, fun z => a6 ?_, thr_of a7⟩
    have z' : (m.1 (P + 1) j).toNatClampNeg = (m.1 (P + 2) j).toNatClampNeg := z
    rw [b1.1, b2.1, z']
  · obtain ⟨a1, a2, a3, a4, a5, a6, a7, -⟩ := x10 j hj
    exact ⟨(nn _ a4.1 a4.2).1, (nn _ a5.1 a5.2).1, rfl⟩
  · obtain ⟨a1, a2, a3, a4, a5, a6, a7, ρ, r1, r2, r3, r4⟩ := x10 j hj
    refine ⟨a1.trans (nn _ a4.1 a4.2).1, a2.trans (nn _ a5.1 a5.2).1, a3, ρ, by show ρ < R; omega, r2, r3, ?_⟩
    show j < (if ρ + 1 < R then sn (ρ + 1) else gN)
    by_cases c : ρ + 1 < R
    · rw [if_pos c]; exact r4 (by omega)
    · rw [if_neg c]; exact hj
set_option maxHeartbeats 1000000 in
theorem og_rounds (c : Nat) (a : Int32) : Both ad d μX11_rounds μX12_rounds [.int a] (InvK (KX KG c)) (InvK (KX KG (c + 1))) := fun m I => by
  obtain ⟨w, I1, ⟨g, v, H, kd⟩, kb⟩ := I
  have kd0 := kd
  obtain ⟨hc, hm, ec, em, uc, um, zb, zh, kp, nx⟩ := kd0
  have nx0 := nx
  obtain ⟨nr, R, n1, n2, n3, n4, n5⟩ := nx0
  have n8 := ec.2.2.1
  have a4 := ec.2.2.2.1
  have hl := uc.1
  have z200 : (200 : Int32).toInt = 200 := rfl
  have z0 : (0 : Int32).toInt = 0 := rfl
  have kb0 := kb
  obtain ⟨pl, -, -⟩ := kb0
  have pl0 := pl
  obtain ⟨P, Q, hR, nn, R', gN, sn, x1, x2, x3, x4, -, -, x7, -⟩ := pl0
  obtain ⟨q1, q2', q3'⟩ := hR.pl
  have hRR : R' = R := (nI_eq (a := R') (b := R) (by omega) (by omega)).mp (x4.symm.trans n3)
  subst hRR
  by_cases hP : (0 ≤ a.toInt ∧ a.toInt ≤ 200) ∧ R' ≠ 0
  · obtain ⟨⟨b1, b2⟩, hR0⟩ := hP
    obtain ⟨n, hn, rfl⟩ := zn_of b1
    rw [nI_toInt hn] at b2
    have h110 : m.1 187 11 ≠ 0 := fun z => hR0 ((nI_eq (a := R') (b := 0) (by omega) (by omega)).mp (x4.symm.trans z))
    obtain ⟨p, hp, hpC, hpM⟩ := pln_of pl ec h110
    have hpR : rdP p = R' := (nI_eq (a := rdP p) (b := R') (by have := hp.2.1; omega) (by omega)).mp (hpM.1.symm.trans x4)
    have hnr : nr < rdP p := by have := hp.1; omega
    have ZT : ZR (nE v) (rdsR true true v p n nr (g, H, 0, 0)) := ZR.rds hp a4 n nr _ hnr ⟨zb, zh⟩
    have hfr : nxI p n nr = (nr + n) % rdP p := by
      have := nxI_m hp n nr
      rw [Nat.mod_eq_of_lt hnr] at this
      exact this
    generalize hT : rdsR true true v p n nr (g, H, 0, 0) = T at ZT
    have hC := rdsC (ad := ad) (d := d + 293) (m0 := m) hp (n := n) (by omega) T (nxI p n nr) ec hpC n 0 nr (g, H, 0, 0) m (by omega) hnr ⟨w, Fx.rf, ⟨hc, uc⟩, n1⟩ hT.symm rfl
    refine v_X11_rounds (d := d + 299) ⟨fun q => absurd (y_ltr (n := 0) rfl q) (by rw [nI_toInt hn]; omega), fun _ => ⟨fun q => absurd (y_ltl (n := 200) rfl q) (by rw [nI_toInt hn]; omega), fun _ => ⟨P, q1, q2', fun _ => ?_, fun q => absurd ((nI_eq (a := R') (b := 0) (by omega) (by omega)).mp (x3.symm.trans q)) hR0⟩⟩⟩
    refine AW.mono hC ?_
    rintro r m1 ⟨rfl, w1, f1, ⟨hc1, uc1⟩, k11⟩
    refine ⟨_, rfl, v_X12_rounds (d := d + 299) ((inM (x := nI n) (lo := 0) (hi := 200) rfl rfl).to ?_)⟩
    rintro _ m2 ⟨eq, v3, rfl, y1, y2⟩
    obtain rfl := eq.symm
    have w0 : WT (uI m1 187 17 0) := w1.n rfl
    have f0 : Fx (RS [20]) m1 (uI m1 187 17 0) := Fx.rf.i rfl
    have e11 : (uI m1 187 17 0).1 187 11 = nI R' := (f1.at (a := 187) (k := 11) (nRS (ρ := 25) rfl rfl)).trans x4
    have e12 : (uI m1 187 17 0).1 187 12 = nI nr := (f1.at (a := 187) (k := 12) (nRS (ρ := 52) rfl rfl)).trans n2
    have hin : (0 : Int32).toInt ≤ (nI n).toInt ∧ (nI n).toInt ≤ (200 : Int32).toInt := by rw [nI_toInt hn]; omega
    refine ⟨v3, rfl, fun z => absurd hin (y1 z), fun _ => ⟨fun _ => ?_, fun z => absurd ((nI_eq (a := R') (b := 0) (by omega) (by omega)).mp (e11.symm.trans z)) hR0⟩⟩
    rw [e12]
    have hm0 : HM (nE v) (uI m1 187 17 0) g := by
      have h := hm.fx f1 rfl rfl
      exact h
    have um0 : UnM (nE v) (uI m1 187 17 0) H := ⟨(um.fx f1 rfl).1, fun j hj => ((um.fx f1 rfl).2 j hj).k (fun k _ _ => rfl)⟩
    have em0 : EM (uI m1 187 17 0) v := by
      have h := em.fx f1 rfl
      exact h
    have hpM0 : PlnM (uI m1 187 17 0) p := (hpM.fx f1 rfl rfl).fx f0 rfl rfl
    refine (goRoundsM (d := d + 128) (lk := true) (sv := true) hp (by decide) (by decide) (by omega) hnr w0 hm0 um0 hl em0 hpM0).to ?_
    rw [hT]
    rintro _ m3 ⟨rfl, w3, f3, hm3, um3, l3, k33, k32⟩
    have e113 : m3.1 187 11 = nI R' := (f3.at (a := 187) (k := 11) (nRS (ρ := 25) rfl rfl)).trans e11
    have e123 : m3.1 187 12 = nI nr := (f3.at (a := 187) (k := 12) (nRS (ρ := 52) rfl rfl)).trans e12
    rw [e113, e123, nI_add, nI_rem (by omega) (by omega) (by omega)]
    refine ⟨rfl, fun z => absurd ((nI_eq (a := R') (b := 0) (by omega) (by omega)).mp z) hR0, ?_⟩
    have w4 : WT (uI (uI m3 187 12 (nI ((nr + n) % R'))) 187 16 (0 : Int32)) := (w3.n rfl).t rfl (by decide) (by decide)
    have f4 : Fx (RS [26, 52]) m3 (uI (uI m3 187 12 (nI ((nr + n) % R'))) 187 16 (0 : Int32)) := Fx.i (Fx.i Fx.rf rfl) rfl
    have k12 : (uI (uI m3 187 12 (nI ((nr + n) % R'))) 187 16 (0 : Int32)).1 187 12 = nI ((nr + n) % R') := (u_ne (by omega)).trans u_eq
    have k16 : (uI (uI m3 187 12 (nI ((nr + n) % R'))) 187 16 (0 : Int32)).1 187 16 = 0 := u_eq
    generalize uI (uI m3 187 12 (nI ((nr + n) % R'))) 187 16 (0 : Int32) = m4 at w4 f4 k12 k16 ⊢
    have z16 : (m4.1 187 16).toInt = 0 := by rw [k16]; rfl
    refine (s_X12_tell w4 (by omega)).to ?_
    rintro _ m5 ⟨w5, f5, rfl, p5⟩
    refine ⟨rfl, (s_X12_sumOfAll (d := d + 298) w5).to ?_⟩
    rintro _ m6 ⟨w6, f6, v6, rfl⟩
    have e616 : (m6.1 187 16).toInt = (m5.1 187 16).toInt := congrArg _ (f6.at (by decide))
    refine ⟨v6, rfl, (s_X12_tell w6 (by omega)).to ?_⟩
    rintro _ m7 ⟨w7, f7, rfl, -⟩
    have f47 : Fx (RS [26, 52]) m3 m7 := ((f4.tr f5 (RS_sub rfl)).tr f6 (RS_sub rfl)).tr f7 (RS_sub rfl)
    have F2 : Fx (RS [20, 22, 24, 26, 28, 29, 31, 49, 52]) m1 m7 := ((Fx.tr Fx.rf f0 (RS_sub rfl)).tr f3 (RS_sub rfl)).tr f47 (RS_sub rfl)
    have e732 : m7.1 187 32 = nI T.2.2.2 := (f47.at (nRS (ρ := 31) rfl rfl)).trans k32
    have e712 : m7.1 187 12 = nI ((nr + n) % R') := (f7.at (nRS (ρ := 52) rfl rfl)).trans ((f6.at (nRS (ρ := 52) rfl rfl)).trans ((f5.at (nRS (ρ := 52) rfl rfl)).trans k12))
    have e711 : m7.1 187 11 = nI R' := (f47.at (nRS (ρ := 25) rfl rfl)).trans e113
    have e011 : m7.1 0 11 = nI ((nr + n) % R') := (F2.at (nRS (ρ := 44) rfl rfl)).trans (k11.trans (by rw [hfr, hpR]))
    have hlt := Nat.mod_lt (nr + n) (show 0 < R' by omega)
    rw [e732]
    exact ⟨rfl, rfl, w7, I1.f2 f1 F2 rfl rfl, ⟨T.1, v, T.2.1, hc1.fx SS_21 F2 rfl, hm3.fx f47 rfl rfl, (ec.fx f1 rfl).fx F2 rfl, (em.fx f1 rfl).fx F2 rfl, uc1.fx F2 rfl rfl, um3.fx f47 rfl, ZT.1, ZT.2, (kp.fx f1 rfl rfl).fx F2 rfl rfl, ⟨(nr + n) % R', R', e011, e712, e711, n4, Or.inr hlt⟩⟩, KB.fd c f1 F2 kb rfl rfl⟩
  · have f0 : Fx (RS [20]) m (uI m 187 17 0) := Fx.rf.i rfl
    have J : InvK (KX KG (c + 1)) (uI m 187 17 0) := ⟨w.n rfl, I1.f2 (Fx.rf (S := RS [])) f0 rfl rfl, ⟨g, v, H, kd.fx f0 rfl⟩, KB.fd c (Fx.rf (S := RS [])) f0 kb rfl rfl⟩
    have e11 : (uI m 187 17 0).1 187 11 = nI R' := x4
    have hM : Ct ad μX12_rounds (d + 300) [.ref (ad 187), .int a] m (fun r m2 => r = some (.int (-1)) ∧ InvK (KX KG (c + 1)) m2) := by
      refine v_X12_rounds (d := d + 299) ((inM (x := a) (lo := 0) (hi := 200) rfl rfl).to ?_)
      rintro _ m2 ⟨eq, v3, rfl, y1, y2⟩
      obtain rfl := eq.symm
      refine ⟨v3, rfl, fun _ => ⟨rfl, J⟩, fun q => ⟨fun q2 => absurd ⟨?_, fun z => q2 (e11.trans (by rw [z]; rfl))⟩ hP, fun _ => ⟨rfl, J⟩⟩⟩
      have := y2 q
      omega
    refine v_X11_rounds (d := d + 299) ⟨fun q => ⟨_, rfl, hM⟩, fun q => ⟨fun _ => ⟨_, rfl, hM⟩, fun q2 => ⟨P, q1, q2', fun q3 => absurd ⟨⟨?_, ?_⟩, fun z => q3 (x3.trans (by rw [z]; rfl))⟩ hP, fun _ => ⟨_, rfl, hM⟩⟩⟩⟩
    · have := y_nltr (n := 0) rfl q; omega
    · have := y_nltl (n := 200) rfl q2; omega
end OPR
