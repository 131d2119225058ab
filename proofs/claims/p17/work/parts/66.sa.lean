/-! THE GAME'S CORE, as both sides play it; and the class's side of what a side can do -/
/-- skills, points, raised, thrown, luck -/
abbrev GS : Type := (Nat → Int32) × (Nat → Int32) × (Nat → Int32) × (Nat → Int32) × Int32
/-- sides, arts, the law's settings, who is ill, the rule's text, its length -/
abbrev EV : Type := Nat × Nat × (Nat → Int32) × (Nat → Bool) × (Nat → Int32) × Nat
def nE (v : EV) : Nat := v.1
def aE (v : EV) : Nat := v.2.1
def lE (v : EV) : Nat → Int32 := v.2.2.1
def iE (v : EV) : Nat → Bool := v.2.2.2.1
def tE (v : EV) : Nat → Int32 := v.2.2.2.2.1
def zE (v : EV) : Nat := v.2.2.2.2.2
def HC (b : Nat) (m : Wm) (g : GS) : Prop := (∀ k, k < 32 → m.1 (b + 1) k = g.1 k) ∧ (∀ k, k < 8 → m.1 (b + 2) k = g.2.1 k) ∧ (∀ k, k < 8 → m.1 (b + 3) k = g.2.2.1 k) ∧ (∀ k, k < 8 → m.1 (b + 4) k = g.2.2.2.1 k) ∧ m.1 b 4 = g.2.2.2.2
/-- of the sides that there are -/
def HM (n : Nat) (m : Wm) (g : GS) : Prop := (∀ k, k < 4 * n → m.1 188 k = g.1 k) ∧ (∀ k, k < n → m.1 190 k = g.2.1 k) ∧ (∀ k, k < n → m.1 191 k = g.2.2.1 k) ∧ (∀ k, k < n → m.1 192 k = g.2.2.2.1 k) ∧ m.1 187 8 = g.2.2.2.2
def illC (m : Wm) (il : Nat → Bool) : Prop := ∀ s, s < 8 → bt (m.1 3 5) s = il s
/-- the rule in force comes to what the text tx of z signs comes to -/
def RuT (m : Wm) (tx : Nat → Int32) (z : Nat) : Prop := ∃ P Q, RuR m P Q ∧ ∃ cl, CodeX P cl m ∧ ((z = 0 ∧ cl = []) ∨ (z ≠ 0 ∧ cl ≠ [] ∧ ∀ lt, evR lt cl [] = some [(prF tx z lt 164 3 0 (0, -1)).1]))
def EC (m : Wm) (v : EV) : Prop := m.1 3 3 = nI (nE v) ∧ m.1 3 4 = nI (aE v) ∧ nE v ≤ 8 ∧ aE v ≤ 4 ∧ (∀ k, k < 5 → m.1 4 k = lE v k) ∧ (illC m (iE v) ∧ ∀ s, nE v ≤ s → iE v s = false) ∧ RuT m (tE v) (zE v)
def EM (m : Wm) (v : EV) : Prop := m.1 187 1 = nI (nE v) ∧ m.1 187 0 = nI (aE v) ∧ nE v ≤ 8 ∧ aE v ≤ 4 ∧ (∀ k, k < 5 → m.1 193 k = lE v k) ∧ (∀ s, s < nE v → m.1 189 s = if iE v s = true then 1 else 0) ∧ m.1 187 27 = nI (zE v) ∧ zE v ≤ 40 ∧ ∀ k, k < zE v → m.1 200 k = tE v k
section COR
variable {ad : Nat → Nat} {d b ρ s ar : Nat} {m m' : Wm} {g : GS} {v : EV} {S : List Nat}
theorem HC.fx (h : HC b m g) (hb : SS b ρ) (f : Fx (RS S) m m') (e : S.elem ρ = false) : HC b m' g := by
  obtain ⟨h1, h2, h3, h4, h5⟩ := h
  have r : ∀ j k, j ≤ 4 → m'.1 (b + j) k = m.1 (b + j) k := fun j k hj => f.at (nRS e (hb.2 j k hj).1)
  exact ⟨fun k hk => (r 1 k (by decide)).trans (h1 k hk), fun k hk => (r 2 k (by decide)).trans (h2 k hk), fun k hk => (r 3 k (by decide)).trans (h3 k hk), fun k hk => (r 4 k (by decide)).trans (h4 k hk), (r 0 4 (by decide)).trans h5⟩
theorem HM.fx {n : Nat} (h : HM n m g) (f : Fx (RS S) m m') (e : S.elem 24 = false) (e2 : S.elem 49 = false) : HM n m' g := by
  obtain ⟨h1, h2, h3, h4, h5⟩ := h
  exact ⟨fun k hk => (f.at (nRS (ρ := 24) e rfl)).trans (h1 k hk), fun k hk => (f.at (nRS (ρ := 24) e rfl)).trans (h2 k hk), fun k hk => (f.at (nRS (ρ := 24) e rfl)).trans (h3 k hk), fun k hk => (f.at (nRS (ρ := 24) e rfl)).trans (h4 k hk), (f.at (nRS (ρ := 49) e2 rfl)).trans h5⟩
theorem RuT.fx {tx : Nat → Int32} {z : Nat} (h : RuT m tx z) (f : Fx (RS S) m m') (e : S.elem 1 = false) : RuT m' tx z := by
  obtain ⟨P, Q, hR, cl, hX, hv⟩ := h
  have hP : P = 5 ∨ P = 10 := by have := hR.2.2; omega
  have r : ∀ j k, j = 0 ∨ j = 1 → m'.1 (P + j) k = m.1 (P + j) k := fun j k hj => f.at (nRS e (rg_1 hP hj))
  exact ⟨P, Q, ⟨((f 3 1 (nRS e rfl)).2.2).trans hR.1, ((f 3 2 (nRS e rfl)).2.2).trans hR.2.1, hR.2.2⟩, cl, ⟨(r 0 4 (Or.inl rfl)).trans hX.1, hX.2.1.k (fun k => r 1 k (Or.inr rfl)), hX.2.2⟩, hv⟩
theorem EC.fx (h : EC m v) (f : Fx (RS S) m m') (e : S.all (fun x => !(([1, 41, 42, 43] : List Nat).elem x)) = true) : EC m' v := by
  obtain ⟨h1, h2, h3, h4, h5, h6, h7⟩ := h
  refine ⟨(f.at (nRS (all_ne e (ρ := 41) rfl) rfl)).trans h1, (f.at (nRS (all_ne e (ρ := 41) rfl) rfl)).trans h2, h3, h4, fun k hk => (f.at (nRS (all_ne e (ρ := 43) rfl) rfl)).trans (h5 k hk), ⟨fun s hs => ?_, h6.2⟩, h7.fx f (all_ne e (ρ := 1) rfl)⟩
  rw [f.at (a := 3) (k := 5) (nRS (all_ne e (ρ := 42) rfl) rfl)]
  exact h6.1 s hs
theorem EM.fx (h : EM m v) (f : Fx (RS S) m m') (e : S.all (fun x => !(([23, 46, 47, 48] : List Nat).elem x)) = true) : EM m' v := by
  obtain ⟨h1, h2, h3, h4, h5, h6, h7, h8, h9⟩ := h
  exact ⟨(f.at (nRS (all_ne e (ρ := 23) rfl) rfl)).trans h1, (f.at (nRS (all_ne e (ρ := 23) rfl) rfl)).trans h2, h3, h4, fun k hk => (f.at (nRS (all_ne e (ρ := 47) rfl) rfl)).trans (h5 k hk), fun s hs => (f.at (nRS (all_ne e (ρ := 46) rfl) rfl)).trans (h6 s hs), (f.at (nRS (all_ne e (ρ := 48) rfl) rfl)).trans h7, h8, fun k hk => (f.at (nRS (all_ne e (ρ := 48) rfl) rfl)).trans (h9 k hk)⟩
theorem sk_ix {a : Nat} : nI s * (4 : Int32) + nI a = nI (4 * s + a) := by rw [mul_l 4 4 rfl, nI_add, Nat.mul_comm]
theorem skillC (hb : SS b ρ) (h : HC b m g) {a : Nat} (hs : s < 8) (ha : a < 4) : Ct ad μX8_skillOf d [.ref (ad b), .int (nI s), .int (nI a)] m (fun r m' => m' = m ∧ r = some (.int (g.1 (4 * s + a)))) := by
  refine v_X8_skillOf hb.1 ?_
  rw [sk_ix, nI_clamp (by omega), h.1 (4 * s + a) (by omega)]
  exact ⟨fun c => absurd ((l_lt 0 0 rfl (by decide) (by omega)).mp c) (by omega), fun _ => ⟨fun c => absurd ((le_l 32 32 rfl (by decide) (by omega)).mp c) (by omega), fun _ => ⟨nat_in (by omega) (by decide), rfl, rfl⟩⟩⟩
theorem putC (hb : SS b ρ) {a : Nat} {x : Int32} (hs : s < 8) (ha : a < 4) : Ct ad μX8_putSkill d [.ref (ad b), .int (nI s), .int (nI a), .int x] m (fun r m' => r = none ∧ m' = uI m (b + 1) (4 * s + a) x) := by
  refine v_X8_putSkill hb.1 ?_
  rw [sk_ix, nI_clamp (by omega)]
  exact ⟨fun c => absurd ((l_lt 0 0 rfl (by decide) (by omega)).mp c) (by omega), fun _ => ⟨fun c => absurd ((le_l 32 32 rfl (by decide) (by omega)).mp c) (by omega), fun _ => ⟨nat_in (by omega) (by decide), rfl, rfl⟩⟩⟩
theorem ix_end (hs : s < 8) (ha : ar ≤ 4) : (if (32 : Int32) < nI s * (4 : Int32) + nI ar then (32 : Int32) else nI s * (4 : Int32) + nI ar) = nI (4 * s + ar) := by
  rw [sk_ix, if_neg (fun c => by have := (lt_l 32 32 rfl (by decide) (by omega)).mp c; omega)]
theorem ix_beg (hs : s < 8) : (if nI s < (0 : Int32) then (0 : Int32) else nI s) * (4 : Int32) = nI (4 * s) := by
  rw [if_neg (fun c => by have := (l_lt 0 0 rfl (by decide) (by omega)).mp c; omega), mul_l 4 4 rfl, Nat.mul_comm]
theorem sumC (hb : SS b ρ) (h : HC b m g) (hs : s < 8) (ha : ar ≤ 4) : Ct ad μX8_sum (d + 1) [.ref (ad b), .int (nI s), .int (nI ar)] m (fun r m' => m' = m ∧ r = some (.int (smF g.1 (4 * s) ar))) := by
  refine v_X8_sum hb.1 ?_
  rw [ix_end hs ha, ix_beg hs]
  refine down (N := ar) (P := fun k => AW ad E0 μX8_sum (d + 1) (fun r m' => m' = m ∧ r = some (.int (smF g.1 (4 * s) ar))) 26 [(0, .ref (ad b)), (3, .int (smF g.1 (4 * s) k)), (4, .int (nI (4 * s + ar))), (5, .int (nI (4 * s + k)))] [] m) ?_ ?_ (Nat.zero_le _)
  · exact g_X8_sum_26 hb.1 ⟨fun _ => ⟨rfl, rfl⟩, fun c => absurd ((nI_leI (by omega) (by omega)).mpr (Nat.le_refl _)) c⟩
  · intro k hk ih
    refine g_X8_sum_26 hb.1 ⟨fun c => absurd ((nI_leI (by omega) (by omega)).mp c) (by omega), fun _ => ?_⟩
    rw [nI_clamp (by omega), h.1 (4 * s + k) (by omega), nI_1]
    exact ⟨nat_in (by omega) (by decide), ih⟩
theorem mostC (hb : SS b ρ) (h : HC b m g) (hs : s < 8) (ha : ar ≤ 4) : Ct ad μX8_greatest (d + 1) [.ref (ad b), .int (nI s), .int (nI ar)] m (fun r m' => m' = m ∧ r = some (.int (mxF g.1 (4 * s) ar))) := by
  refine v_X8_greatest hb.1 ?_
  rw [ix_end hs ha, ix_beg hs]
  refine down (N := ar) (P := fun k => AW ad E0 μX8_greatest (d + 1) (fun r m' => m' = m ∧ r = some (.int (mxF g.1 (4 * s) ar))) 26 [(0, .ref (ad b)), (3, .int (mxF g.1 (4 * s) k)), (4, .int (nI (4 * s + ar))), (5, .int (nI (4 * s + k)))] [] m) ?_ ?_ (Nat.zero_le _)
  · exact g_X8_greatest_26 hb.1 ⟨fun _ => ⟨rfl, rfl⟩, fun c => absurd ((nI_leI (by omega) (by omega)).mpr (Nat.le_refl _)) c⟩
  · intro k hk ih
    refine g_X8_greatest_26 hb.1 ⟨fun c => absurd ((nI_leI (by omega) (by omega)).mp c) (by omega), fun _ => ?_⟩
    rw [nI_clamp (by omega), h.1 (4 * s + k) (by omega), nI_1]
    exact ⟨nat_in (by omega) (by decide), ih⟩
theorem leastC (hb : SS b ρ) (h : HC b m g) (hs : s < 8) (ha : ar ≤ 4) : Ct ad μX8_least (d + 1) [.ref (ad b), .int (nI s), .int (nI ar)] m (fun r m' => m' = m ∧ r = some (.int (mnF g.1 (4 * s) ar))) := by
  refine v_X8_least hb.1 ?_
  rw [ix_end hs ha, ix_beg hs]
  refine down (N := ar) (P := fun k => AW ad E0 μX8_least (d + 1) (fun r m' => m' = m ∧ r = some (.int (mnF g.1 (4 * s) ar))) 27 [(0, .ref (ad b)), (3, .int (mnF g.1 (4 * s) k)), (4, .int (nI (4 * s + ar))), (5, .int (nI (4 * s + k)))] [] m) ?_ ?_ (Nat.zero_le _)
  · exact g_X8_least_27 hb.1 ⟨fun _ => ⟨rfl, rfl⟩, fun c => absurd ((nI_leI (by omega) (by omega)).mpr (Nat.le_refl _)) c⟩
  · intro k hk ih
    refine g_X8_least_27 hb.1 ⟨fun c => absurd ((nI_leI (by omega) (by omega)).mp c) (by omega), fun _ => ?_⟩
    rw [nI_clamp (by omega), h.1 (4 * s + k) (by omega), nI_1]
    exact ⟨nat_in (by omega) (by decide), ih⟩
theorem thingC (hb : SS b ρ) (h : HC b m g) (hs : s < 8) (ha : ar ≤ 4) {c : Int32} (hc : isLt c) : Ct ad μX5_thing (d + 2) [.int c, .ref (ad b), .int (nI s), .int (nI ar)] m (fun r m' => m' = m ∧ r = some (.int (ltF g.1 g.2.1 g.2.2.1 ar s c))) := by
  refine v_X5_thing hb.1 ⟨?_, ?_, ?_, ?_, ?_, ?_, ?_⟩
  · rintro rfl
    exact ⟨rfl, rfl⟩
  · rintro rfl
    refine (leastC hb h hs ha).to ?_
    rintro _ m1 ⟨eq, rfl⟩
    obtain rfl := eq.symm
    exact ⟨_, rfl, rfl, rfl⟩
  · rintro rfl
    refine (mostC hb h hs ha).to ?_
    rintro _ m1 ⟨eq, rfl⟩
    obtain rfl := eq.symm
    exact ⟨_, rfl, rfl, rfl⟩
  · rintro rfl
    refine ⟨nat_in hs (by decide), rfl, ?_⟩
    rw [nI_clamp (by omega), h.2.1 s hs]
    rfl
  · rintro rfl
    refine ⟨nat_in hs (by decide), rfl, ?_⟩
    rw [nI_clamp (by omega), h.2.2.1 s hs]
    rfl
  · rintro rfl
    refine (sumC hb h hs ha).to ?_
    rintro _ m1 ⟨eq, rfl⟩
    obtain rfl := eq.symm
    exact ⟨_, rfl, rfl, rfl⟩
  · intro h1 h2 h3 h4 h5 h6
    have hr : 97 ≤ c ∧ c ≤ 100 := by
      rcases hc with q | q | q | q | q | q | q
      · exact q
      · exact absurd q h6
      · exact absurd q h3
      · exact absurd q h2
      · exact absurd q h1
      · exact absurd q h4
      · exact absurd q h5
    have q1 := y_lel (n := 97) rfl hr.1
    have q2 := y_ler (n := 100) rfl hr.2
    have z97 : (97 : Int32).toInt = 97 := rfl
    have q4 := ti_sub (x := c) (y := (97 : Int32)) (by omega)
    obtain ⟨j, hj, ej⟩ := zn_of (x := c - 97) (by omega)
    have q5 : (c - 97).toInt = j := by rw [ej, nI_toInt hj]
    have z0 : (0 : Int32).toInt = 0 := rfl
    have z1 : (1 : Int32).toInt = 1 := rfl
    have q3 : (nI ar).toInt = ar := nI_toInt (by omega)
    have q6 := ti_sub (x := nI ar) (y := (1 : Int32)) (by omega)
    have e0 : ltF g.1 g.2.1 g.2.2.1 ar s c = if 0 ≤ c - 97 ∧ c - 97 ≤ nI ar - 1 then g.1 (4 * s + (c - 97).toNatClampNeg) else 0 := by
      unfold ltF
      rw [if_neg h1, if_neg h2, if_neg h3, if_neg h4, if_neg h5, if_neg h6]
    refine ⟨fun q => ⟨rfl, ?_⟩, fun q => ?_⟩
    · have := z_le q
      rw [e0, if_neg (fun z => by have := z_le z.2; omega)]
    · have := z_nle q
      rw [e0, if_pos ⟨(fa_le _ _).mpr (by omega), (fa_le _ _).mpr (by omega)⟩, ej, nI_clamp hj]
      refine (skillC hb h hs (a := j) (by omega)).to ?_
      rintro _ m1 ⟨eq, rfl⟩
      obtain rfl := eq.symm
      exact ⟨_, rfl, rfl, rfl⟩
theorem joinC {c x y : Int32} : Ct ad μX5_joined d [.int c, .int x, .int y] m (fun r m' => m' = m ∧ r = some (.int (jnF c x y))) := by
  refine v_X5_joined ⟨?_, ?_, ?_, ?_, ?_, ?_, ?_⟩
  · rintro rfl; exact ⟨rfl, rfl⟩
  · rintro rfl; exact ⟨rfl, rfl⟩
  · rintro rfl; exact ⟨rfl, rfl⟩
  · rintro rfl
    have e : jnF 60 x y = if x < y then 1 else 0 := rfl
    rw [e]
    exact ⟨fun q => ⟨rfl, by rw [if_neg (fun z => by have := z_le q; have := z_lt z; omega)]⟩, fun q => ⟨rfl, by rw [if_pos ((fa_lt _ _).mpr (z_nle q))]⟩⟩
  · rintro rfl
    have e : jnF 61 x y = if x = y then 1 else 0 := rfl
    rw [e]
    exact ⟨fun q => ⟨rfl, by rw [if_neg q]⟩, fun q => ⟨rfl, by rw [if_pos q]⟩⟩
  · rintro rfl
    have e : jnF 62 x y = if y < x then 1 else 0 := rfl
    rw [e]
    exact ⟨fun q => ⟨rfl, by rw [if_neg (fun z => by have := z_le q; have := z_lt z; omega)]⟩, fun q => ⟨rfl, by rw [if_pos ((fa_lt _ _).mpr (z_nle q))]⟩⟩
  · intro n42 n43 n45 n60 n61 n62
    have e : jnF c x y = if y = 0 then 0 else x / y := by
      unfold jnF
      rw [if_neg n60, if_neg n62, if_neg n61, if_neg n43, if_neg n45, if_neg n42]
    rw [e]
    exact ⟨fun q => ⟨q, rfl, by rw [if_neg q]⟩, fun q => ⟨rfl, by rw [if_pos q]⟩⟩
theorem clampC {x lo hi : Int32} (h : lo.toInt ≤ hi.toInt) : Ct ad μX11_clamp d [.int x, .int lo, .int hi] m (fun r m' => m' = m ∧ r = some (.int (if lo < (if x < hi then x else hi) then (if x < hi then x else hi) else lo))) := by
  refine v_X11_clamp ⟨fun c1 => ⟨fun c2 => ⟨rfl, ?_⟩, fun c2 => ⟨rfl, ?_⟩⟩, fun c1 => ⟨rfl, ?_⟩⟩
  · have := z_le c1
    have := z_le c2
    refine congrArg (fun z => some (Value.int z)) ?_
    by_cases q : x < hi
    · rw [if_pos q]
      by_cases q2 : lo < x
      · rw [if_pos q2]
      · rw [if_neg q2]; have := z_nlt q2; exact (fa_eq _ _).mpr (by omega)
    · have := z_nlt q
      rw [if_neg q]
      by_cases q2 : lo < hi
      · rw [if_pos q2]; exact (fa_eq _ _).mpr (by omega)
      · rw [if_neg q2]; have := z_nlt q2; exact (fa_eq _ _).mpr (by omega)
  · have := z_le c1
    have := z_nle c2
    refine congrArg (fun z => some (Value.int z)) ?_
    rw [if_neg (c := x < hi) (fun z => by have := z_lt z; omega)]
    by_cases q2 : lo < hi
    · rw [if_pos q2]
    · rw [if_neg q2]; have := z_nlt q2; exact (fa_eq _ _).mpr (by omega)
  · have := z_nle c1
    refine congrArg (fun z => some (Value.int z)) ?_
    rw [if_pos (c := x < hi) ((fa_lt _ _).mpr (by omega)), if_neg (c := lo < x) (fun z => by have := z_lt z; omega)]
theorem drop_c : ∀ (cl : List Int32) (j : Nat), j < cl.length → cl.drop j = cAt cl j :: cl.drop (j + 1) := by
  intro cl
  induction cl with
  | nil => intro j h; exact absurd h (Nat.not_lt_zero j)
  | cons x cl ih =>
    intro j h
    cases j with
    | zero => rfl
    | succ j => exact ih j (by rw [List.length_cons] at h; omega)
theorem ev_suf {lt : Int32 → Int32} : ∀ (cl : List Int32) (σ τ : List Int32), evR lt cl σ = some τ → ∀ j, ∃ υ, evR lt (cl.drop j) σ = some υ := by
  intro cl
  induction cl with
  | nil => intro σ τ h j; exact ⟨τ, by rw [List.drop_nil]; exact h⟩
  | cons x cl ih =>
    intro σ τ h j
    cases j with
    | zero => exact ⟨τ, h⟩
    | succ j =>
      cases e : evR lt cl σ with
      | none =>
        have h3 : evR lt (x :: cl) σ = none := by
          show (match evR lt cl σ with | none => none | some τ => evS lt x τ) = _
          rw [e]
        rw [h3] at h
        cases h
      | some υ => exact ih σ υ e j
end COR
/-! WHAT A SIDE CAN DO: the class's value of the code -/
section VAL
variable {ad : Nat → Nat} {d b ρ s ar P : Nat} {m m0 : Wm} {g : GS} {cl : List Int32} {v : Int32}
theorem CodeX.fx {S : List Nat} {m' : Wm} (hP : P = 5 ∨ P = 10) (h : CodeX P cl m) (f : Fx (RS S) m m') (e : S.elem 1 = false) : CodeX P cl m' := by
  have r : ∀ j k, j = 0 ∨ j = 1 → m'.1 (P + j) k = m.1 (P + j) k := fun j k hj => f.at (nRS e (rg_1 hP hj))
  exact ⟨(r 0 4 (Or.inl rfl)).trans h.1, h.2.1.k (fun k => r 1 k (Or.inr rfl)), h.2.2⟩
theorem rg_14 {k : Nat} (hP : P = 5 ∨ P = 10) : rg (P + 2) k = 14 := by rcases hP with rfl | rfl <;> rfl
theorem wV (hP : P = 5 ∨ P = 10) (w : WT m) {k : Nat} {x : Int32} : WT (uI m (P + 2) k x) := by rcases hP with rfl | rfl; exact w.n rfl; exact w.n rfl
theorem fV (hP : P = 5 ∨ P = 10) (f : Fx (RS [14]) m0 m) {k : Nat} {x : Int32} : Fx (RS [14]) m0 (uI m (P + 2) k x) := f.i (by unfold RS; rw [rg_14 hP]; rfl)
set_option maxHeartbeats 1000000 in
theorem e_value (hb : SS b ρ) (hρ : ([14] : List Nat).elem ρ = false) (hP : P = 5 ∨ P = 10) (w : WT m) (h : HC b m g) (hs : s < 8) (ha : ar ≤ 4) (hX : CodeX P cl m)
    (hv : cl ≠ [] → evR (ltF g.1 g.2.1 g.2.2.1 ar s) cl [] = some [v]) : Ct ad μX5_value (d + 3) [.ref (ad P), .ref (ad b), .int (nI s), .int (nI ar)] m (fun r m' => WT m' ∧ Fx (RS [14]) m m' ∧ r = some (.int (if cl = [] then smF g.1 (4 * s) ar else clM v))) := by
  obtain ⟨x1, x2, x3⟩ := hX
  refine v_X5_value (Ru_of hP) hb.1 ⟨fun c => ?_, fun c => ?_⟩
  · have hn : cl ≠ [] := fun q => c (by rw [x1, q]; rfl)
    have hv1 := hv hn
    rw [if_neg hn]
    have L : ∀ (n i : Nat) (σ : List Int32) (m1 : Wm), i + n = cl.length → WT m1 → Fx (RS [14]) m m1 → evR (ltF g.1 g.2.1 g.2.2.1 ar s) (cl.drop n) [] = some σ → LCel m1 (P + 2) σ → σ.length ≤ i →
        AW ad E0 μX5_value (d + 2 + 1) (fun r m' => WT m' ∧ Fx (RS [14]) m m' ∧ r = some (.int (clM v))) 20 [(0, .ref (ad P)), (1, .ref (ad b)), (2, .int (nI s)), (3, .int (nI ar)), (4, .int (nI σ.length)), (5, .int (nI i))] [] m1 := by
      intro n
      induction n with
      | zero =>
        intro i σ m1 hi w1 f1 hσ hL hl
        have k4 : m1.1 P 4 = nI cl.length := (f1.at (nRS (ρ := 1) rfl (rg_1 (j := 0) hP (Or.inl rfl)))).trans x1
        have e1 : σ = [v] := by
          have : evR (ltF g.1 g.2.1 g.2.2.1 ar s) (cl.drop 0) [] = some [v] := hv1
          rw [this] at hσ
          exact (Option.some.inj hσ).symm
        subst e1
        have ev0 : m1.1 (P + 2) 0 = v := hL 0 (Nat.lt_succ_self 0)
        refine g_X5_value_20 (Ru_of hP) hb.1 ⟨fun _ => ?_, fun c => absurd (by rw [k4]; exact (nI_leI (by omega) (by omega)).mpr (by omega)) c⟩
        have e00 : (0 : Int32).toNatClampNeg = 0 := rfl
        rw [e00, ev0]
        refine (clampC (by decide)).to ?_
        rintro _ m2 ⟨eq, rfl⟩
        obtain rfl := eq.symm
        exact ⟨_, rfl, w1, f1, rfl⟩
      | succ n ih =>
        intro i σ m1 hi w1 f1 hσ hL hl
        have k4 : m1.1 P 4 = nI cl.length := (f1.at (nRS (ρ := 1) rfl (rg_1 (j := 0) hP (Or.inl rfl)))).trans x1
        have H1 : HC b m1 g := h.fx hb f1 hρ
        have ex : m1.1 (P + 1) i = cAt cl n := ((f1.at (nRS (ρ := 1) rfl (rg_1 (j := 1) hP (Or.inr rfl)))).trans (x2 i (by omega))).trans (by rw [show cl.length - 1 - i = n by omega])
        have ed := drop_c cl n (by omega)
        obtain ⟨υ, hυ⟩ := ev_suf cl [] [v] hv1 n
        rw [ed, evR_c hσ] at hυ
        have hυ2 : evR (ltF g.1 g.2.1 g.2.2.1 ar s) (cl.drop n) [] = some υ := by rw [ed, evR_c hσ]; exact hυ
        generalize cAt cl n = x at ex hυ
        have hs40 : σ.length < 40 := by omega
        have psh : ∀ y, υ = y :: σ → AW ad E0 μX5_value (d + 2 + 1) (fun r m' => WT m' ∧ Fx (RS [14]) m m' ∧ r = some (.int (clM v))) 20 [(0, .ref (ad P)), (1, .ref (ad b)), (2, .int (nI s)), (3, .int (nI ar)), (4, .int (nI σ.length + (1 : Int32))), (5, .int (nI i + (1 : Int32)))] [] (uI m1 (P + 2) (nI σ.length).toNatClampNeg y) := fun y hy => by
          subst hy
          rw [nI_clamp (by omega), nI_1, nI_1]
          exact ih (i + 1) (y :: σ) _ (by omega) (wV hP w1) (fV hP f1) hυ2 hL.c (by rw [List.length_cons]; omega)
        refine g_X5_value_20 (Ru_of hP) hb.1 ⟨fun c => absurd (by rw [k4] at c; exact (nI_leI (by omega) (by omega)).mp c) (by omega), fun _ => ?_⟩
        rw [nI_clamp (by omega), ex]
        refine ⟨nat_in (by omega) (by decide), fun c => (e_rank).to ?_, fun c => ?_⟩
        · rintro _ m2 ⟨eq, rfl⟩
          obtain rfl := eq.symm
          refine ⟨_, rfl, ?_⟩
          have n1 : ¬ x < 1000 := fun q => by have := z_le c; have := z_lt q; omega
          have rk := rk_4 (c := x - 1000)
          unfold evS at hυ
          rw [if_neg n1] at hυ
          refine g_X5_value_59 (Ru_of hP) hb.1 ⟨fun q => ?_, fun q => ⟨fun q2 => absurd ((le_l 40 40 rfl (by decide) (by omega)).mp q2) (by omega), fun _ => ⟨fun _ => ?_, fun q2 => absurd c q2⟩⟩⟩
          · have r0 : ¬ rkN (x - 1000) = 0 := fun z => q (by rw [z]; rfl)
            rw [if_neg r0] at hυ
            refine g_X5_value_111 (Ru_of hP) hb.1 ⟨fun q4 => ?_, fun q4 => ?_⟩
            · have r4 : ¬ rkN (x - 1000) = 4 := fun z => q4 (by rw [z]; rfl)
              rw [if_neg r4] at hυ
              obtain ⟨y, z, r, rfl, hυr⟩ : ∃ y z r, σ = y :: z :: r ∧ υ = jnF (x - 1000) z y :: r := by
                cases σ with
                | nil => cases hυ
                | cons y σ =>
                  cases σ with
                  | nil => cases hυ
                  | cons z r => exact ⟨y, z, r, rfl, (Option.some.inj hυ).symm⟩
              rw [List.length_cons, List.length_cons] at hs40 hl
              have el : nI (y :: z :: r).length = nI (r.length + 2) := by rw [List.length_cons, List.length_cons]
              have ea : nI (r.length + 2) + (-1 : Int32) = nI (r.length + 1) := by
                have := nI_sb (a := r.length + 2) (b := 1) (by omega) (by omega)
                rw [Int32.sub_eq_add_neg] at this
                exact this
              have eb : nI (r.length + 1) - (1 : Int32) = nI r.length := nI_sb (a := r.length + 1) (b := 1) (by omega) (by omega)
              rw [el]
              refine g_X5_value_144 (Ru_of hP) hb.1 ⟨fun q2 => absurd ((l_le 1 1 rfl (by decide) (by omega)).mp q2) (by omega), fun _ => ?_⟩
              have hz : m1.1 (P + 2) r.length = z := hL.t.h
              have hy : m1.1 (P + 2) (r.length + 1) = y := hL.h
              rw [ea, eb, nI_clamp (by omega), nI_clamp (by omega), hz, hy]
              refine ⟨nat_in (by omega) (by decide), nat_in (by omega) (by decide), (joinC).to ?_⟩
              rintro _ m2 ⟨eq, rfl⟩
              obtain rfl := eq.symm
              subst hυr
              refine ⟨_, rfl, nat_in (by omega) (by decide), ?_⟩
              rw [nI_1]
              have := ih (i + 1) (jnF (x - 1000) z y :: r) (uI m1 (P + 2) r.length (jnF (x - 1000) z y)) (by omega) (wV hP w1) (fV hP f1) hυ2 (hL.t.t.c) (by rw [List.length_cons]; omega)
              rw [List.length_cons] at this
              exact this
            · have r4 : rkN (x - 1000) = 4 := (nI_eq (a := rkN (x - 1000)) (b := 4) (by omega) (by omega)).mp q4
              rw [if_pos r4] at hυ
              obtain ⟨y, r, rfl, hυr⟩ : ∃ y r, σ = y :: r ∧ υ = (-y) :: r := by
                cases σ with
                | nil => cases hυ
                | cons y r => exact ⟨y, r, rfl, (Option.some.inj hυ).symm⟩
              rw [List.length_cons] at hs40 hl
              have el : nI (y :: r).length = nI (r.length + 1) := by rw [List.length_cons]
              have eb : nI (r.length + 1) - (1 : Int32) = nI r.length := nI_sb (a := r.length + 1) (b := 1) (by omega) (by omega)
              rw [el]
              refine ⟨fun q2 => absurd ((l_le 0 0 rfl (by decide) (by omega)).mp q2) (by omega), fun _ => ?_⟩
              have hy : m1.1 (P + 2) r.length = y := hL.h
              rw [eb, nI_clamp (by omega), hy, nI_1]
              subst hυr
              refine ⟨nat_in (by omega) (by decide), nat_in (by omega) (by decide), ?_⟩
              have := ih (i + 1) ((-y) :: r) (uI m1 (P + 2) r.length (-y)) (by omega) (wV hP w1) (fV hP f1) hυ2 (hL.t.c) (by rw [List.length_cons]; omega)
              rw [List.length_cons] at this
              exact this
          · have r0 : rkN (x - 1000) = 0 := (nI_eq (a := rkN (x - 1000)) (b := 0) (by omega) (by omega)).mp q
            rw [if_pos r0] at hυ
            by_cases hl2 : isLt (x - 1000)
            · rw [if_pos hl2] at hυ
              refine (thingC (d := d) hb H1 hs ha hl2).to ?_
              rintro _ m2 ⟨eq, rfl⟩
              obtain rfl := eq.symm
              exact ⟨_, rfl, nat_in hs40 (by decide), psh _ (Option.some.inj hυ).symm⟩
            · rw [if_neg hl2] at hυ
              cases hυ
        · have n1 : x < 1000 := (fa_lt _ _).mpr (z_nle c)
          unfold evS at hυ
          rw [if_pos n1] at hυ
          exact g_X5_value_59 (Ru_of hP) hb.1 ⟨fun q => absurd rfl q, fun _ => ⟨fun q2 => absurd ((le_l 40 40 rfl (by decide) (by omega)).mp q2) (by omega), fun _ => ⟨fun q2 => absurd q2 c, fun _ => ⟨nat_in hs40 (by decide), psh _ (Option.some.inj hυ).symm⟩⟩⟩⟩
    exact L cl.length 0 [] m (by omega) w Fx.rf (by rw [List.drop_length]; rfl) (fun i hi => absurd hi (Nat.not_lt_zero i)) (Nat.le_refl _)
  · have hn : cl = [] := by
      rw [x1] at c
      exact List.eq_nil_of_length_eq_zero ((nI_eq (a := cl.length) (b := 0) (by omega) (by decide)).mp c)
    rw [if_pos hn]
    refine (sumC hb h hs ha).to ?_
    rintro _ m1 ⟨eq, rfl⟩
    obtain rfl := eq.symm
    exact ⟨_, rfl, w, Fx.rf, rfl⟩
end VAL
/-! A GAME SETTLED: points, who teaches whom; the class's side -/
def artL (s : Nat → Int32) (f t : Nat) : Nat → Nat → Int32 → Int32 → Int32
  | 0, _, bst, _ => bst
  | k + 1, a, bst, w => if s (4 * f + a) - s (4 * t + a) ≤ w then artL s f t k (a + 1) bst w else artL s f t k (a + 1) (nI a) (s (4 * f + a) - s (4 * t + a))
def artG (s : Nat → Int32) (f t n : Nat) : Int32 := artL s f t n 0 (-1) 0
def gnG (il : Bool) (up have_ own : Int32) : Int32 := if il = true then 0 else if own - have_ < up then own - have_ else up
def clS (x : Int32) : Int32 := if 0 < (if x < 7 then x else 7) then (if x < 7 then x else 7) else 0
def gainG (v : EV) (f t : Nat) (g : GS) : Int32 := gnG (iE v f) (lE v 1) (g.1 (4 * t + (artG g.1 f t (aE v)).toNatClampNeg)) (g.1 (4 * f + (artG g.1 f t (aE v)).toNatClampNeg))
def tchG (cn : Bool) (v : EV) (f t : Nat) (g : GS) : GS :=
  if artG g.1 f t (aE v) = -1 then g else
    (upd (upd g.1 (4 * t + (artG g.1 f t (aE v)).toNatClampNeg) (g.1 (4 * t + (artG g.1 f t (aE v)).toNatClampNeg) + gainG v f t g)) (4 * f + (artG g.1 f t (aE v)).toNatClampNeg) (clS (g.1 (4 * f + (artG g.1 f t (aE v)).toNatClampNeg) + lE v 2 - 1)),
     g.2.1, (if cn = true then upd g.2.2.1 f (g.2.2.1 f + gainG v f t g) else g.2.2.1), g.2.2.2)
def ptG (a b : Nat) (won : Int32) (g : GS) : GS :=
  (g.1, (if won = 2 then upd (upd g.2.1 a (g.2.1 a + 1)) b (upd g.2.1 a (g.2.1 a + 1) b + 1) else upd g.2.1 (if won = 0 then a else b) (g.2.1 (if won = 0 then a else b) + 3)), g.2.2)
def stl1 (cn : Bool) (v : EV) (w l : Nat) (g : GS) : GS := if lE v 0 = 0 ∨ lE v 0 = 2 then tchG cn v w l g else g
def stl2 (cn : Bool) (v : EV) (w l : Nat) (g : GS) : GS := if lE v 0 = 1 ∨ lE v 0 = 2 then tchG cn v l w g else g
/-- by POINTS and RAISED if they count -/
def stlG (cn : Bool) (v : EV) (a b : Nat) (won : Int32) (g : GS) : GS :=
  if won = 2 then (if cn = true then ptG a b won g else g)
  else stl2 cn v (if won = 0 then a else b) (if won = 0 then b else a) (stl1 cn v (if won = 0 then a else b) (if won = 0 then b else a) (if cn = true then ptG a b won g else g))
theorem artL_of {s : Nat → Int32} {f t : Nat} : ∀ (k a : Nat) (bst w : Int32), (bst = -1 ∨ ∃ j, j < a ∧ bst = nI j) → artL s f t k a bst w = -1 ∨ ∃ j, j < a + k ∧ artL s f t k a bst w = nI j := by
  intro k
  induction k with
  | zero => intro a bst w h; exact h
  | succ k ih =>
    intro a bst w h
    have e : artL s f t (k + 1) a bst w = if s (4 * f + a) - s (4 * t + a) ≤ w then artL s f t k (a + 1) bst w else artL s f t k (a + 1) (nI a) (s (4 * f + a) - s (4 * t + a)) := rfl
    rw [e, show a + (k + 1) = a + 1 + k by omega]
    by_cases c : s (4 * f + a) - s (4 * t + a) ≤ w
    · rw [if_pos c]
      exact ih _ _ _ (h.imp id (fun ⟨j, hj, e⟩ => ⟨j, by omega, e⟩))
    · rw [if_neg c]
      exact ih _ _ _ (Or.inr ⟨a, by omega, rfl⟩)
theorem artG_of {s : Nat → Int32} {f t n : Nat} : artG s f t n = -1 ∨ ∃ j, j < n ∧ artG s f t n = nI j := by
  have := artL_of (s := s) (f := f) (t := t) n 0 (-1) 0 (Or.inl rfl)
  rw [Nat.zero_add] at this
  exact this
theorem upd_eq {p q : Nat → Int32} {i k : Nat} {x : Int32} (h : p k = q k) : upd p i x k = upd q i x k := by
  unfold upd
  by_cases e : k = i
  · rw [if_pos e, if_pos e]
  · rw [if_neg e, if_neg e]; exact h
def GR (ρ : Nat) : Prop := ρ = 3 ∨ ρ = 4 ∨ ρ = 5 ∨ ρ = 6 ∨ ρ = 11 ∨ ρ = 12 ∨ ρ = 13
theorem clampS {ad : Nat → Nat} {d : Nat} {m : Wm} {x : Int32} : Ct ad μX11_clamp d [.int x, .int 0, .int 7] m (fun r m' => m' = m ∧ r = some (.int (clS x))) := (clampC (by decide)).to (fun r m1 h => h)
section STL
variable {ad : Nat → Nat} {d b ρ f t : Nat} {m m' m0 : Wm} {g : GS} {v : EV} {S : List Nat}
theorem GR.e1 (h : GR ρ) : ([2, ρ] : List Nat).all (fun x => !(([1, 41, 42, 43] : List Nat).elem x)) = true := by rcases h with rfl | rfl | rfl | rfl | rfl | rfl | rfl <;> rfl
theorem GR.e2 (h : GR ρ) : ([14] : List Nat).elem ρ = false := by rcases h with rfl | rfl | rfl | rfl | rfl | rfl | rfl <;> rfl
theorem GR.e3 (h : GR ρ) : ([2] : List Nat).elem ρ = false := by rcases h with rfl | rfl | rfl | rfl | rfl | rfl | rfl <;> rfl
theorem SS.wu (hb : SS b ρ) (w : WT m) {j k : Nat} {x : Int32} (hj : j ≤ 4) : WT (uI m (b + j) k x) := w.n (hb.2 j k hj).2
theorem SS.fu (hb : SS b ρ) (h : Fx (RS [2, ρ]) m0 m) {j k : Nat} {x : Int32} (hj : j ≤ 4) : Fx (RS [2, ρ]) m0 (uI m (b + j) k x) := h.i (by
  unfold RS
  rw [(hb.2 j k hj).1]
  exact List.elem_eq_true_of_mem (by simp))
theorem HC.sk (h : HC b m g) {i : Nat} {x : Int32} : HC b (uI m (b + 1) i x) (upd g.1 i x, g.2) := by
  obtain ⟨h1, h2, h3, h4, h5⟩ := h
  refine ⟨fun k hk => ?_, fun k hk => (u_ne (by omega)).trans (h2 k hk), fun k hk => (u_ne (by omega)).trans (h3 k hk), fun k hk => (u_ne (by omega)).trans (h4 k hk), (u_ne (by omega)).trans h5⟩
  rw [uI_row]
  exact upd_eq (h1 k hk)
theorem HC.pt (h : HC b m g) {i : Nat} {x : Int32} : HC b (uI m (b + 2) i x) (g.1, upd g.2.1 i x, g.2.2) := by
  obtain ⟨h1, h2, h3, h4, h5⟩ := h
  refine ⟨fun k hk => (u_ne (by omega)).trans (h1 k hk), fun k hk => ?_, fun k hk => (u_ne (by omega)).trans (h3 k hk), fun k hk => (u_ne (by omega)).trans (h4 k hk), (u_ne (by omega)).trans h5⟩
  rw [uI_row]
  exact upd_eq (h2 k hk)
theorem HC.ra (h : HC b m g) {i : Nat} {x : Int32} : HC b (uI m (b + 3) i x) (g.1, g.2.1, upd g.2.2.1 i x, g.2.2.2) := by
  obtain ⟨h1, h2, h3, h4, h5⟩ := h
  refine ⟨fun k hk => (u_ne (by omega)).trans (h1 k hk), fun k hk => (u_ne (by omega)).trans (h2 k hk), fun k hk => ?_, fun k hk => (u_ne (by omega)).trans (h4 k hk), (u_ne (by omega)).trans h5⟩
  rw [uI_row]
  exact upd_eq (h3 k hk)
theorem HC.th (h : HC b m g) {i : Nat} {x : Int32} : HC b (uI m (b + 4) i x) (g.1, g.2.1, g.2.2.1, upd g.2.2.2.1 i x, g.2.2.2.2) := by
  obtain ⟨h1, h2, h3, h4, h5⟩ := h
  refine ⟨fun k hk => (u_ne (by omega)).trans (h1 k hk), fun k hk => (u_ne (by omega)).trans (h2 k hk), fun k hk => (u_ne (by omega)).trans (h3 k hk), fun k hk => ?_, (u_ne (by omega)).trans h5⟩
  rw [uI_row]
  exact upd_eq (h4 k hk)
theorem HC.lu (h : HC b m g) {x : Int32} : HC b (uI m b 4 x) (g.1, g.2.1, g.2.2.1, g.2.2.2.1, x) := by
  obtain ⟨h1, h2, h3, h4, h5⟩ := h
  exact ⟨fun k hk => (u_ne (by omega)).trans (h1 k hk), fun k hk => (u_ne (by omega)).trans (h2 k hk), fun k hk => (u_ne (by omega)).trans (h3 k hk), fun k hk => (u_ne (by omega)).trans (h4 k hk), u_eq⟩
theorem HC.o (h : HC b m g) {a i : Nat} {x : Int32} (hn : ¬ (b ≤ a ∧ a ≤ b + 4)) : HC b (uI m a i x) g := by
  obtain ⟨h1, h2, h3, h4, h5⟩ := h
  exact ⟨fun k hk => (u_ne (by omega)).trans (h1 k hk), fun k hk => (u_ne (by omega)).trans (h2 k hk), fun k hk => (u_ne (by omega)).trans (h3 k hk), fun k hk => (u_ne (by omega)).trans (h4 k hk), (u_ne (by omega)).trans h5⟩
theorem furthC (hb : SS b ρ) (h : HC b m g) (hf : f < 8) (ht : t < 8) {ar : Nat} (ha : ar ≤ 4) : Ct ad μX8_furthestArt (d + 1) [.ref (ad b), .int (nI f), .int (nI t), .int (nI ar)] m (fun r m' => m' = m ∧ r = some (.int (artG g.1 f t ar))) := by
  refine v_X8_furthestArt hb.1 ?_
  rw [ix_beg hf, ix_beg ht]
  have L : ∀ (k a : Nat) (bst w : Int32), a + k = ar → AW ad E0 μX8_furthestArt (d + 1) (fun r m' => m' = m ∧ r = some (.int (artL g.1 f t k a bst w))) 27 [(0, .ref (ad b)), (3, .int (nI ar)), (4, .int bst), (5, .int w), (6, .int (nI (4 * f))), (7, .int (nI (4 * t))), (8, .int (nI a))] [] m := by
    intro k
    induction k with
    | zero =>
      intro a bst w hk
      exact g_X8_furthestArt_27 hb.1 ⟨fun _ => ⟨rfl, rfl⟩, fun c => absurd ((nI_leI (by omega) (by omega)).mpr (by omega)) c⟩
    | succ k ih =>
      intro a bst w hk
      have e : artL g.1 f t (k + 1) a bst w = if g.1 (4 * f + a) - g.1 (4 * t + a) ≤ w then artL g.1 f t k (a + 1) bst w else artL g.1 f t k (a + 1) (nI a) (g.1 (4 * f + a) - g.1 (4 * t + a)) := rfl
      rw [e]
      refine g_X8_furthestArt_27 hb.1 ⟨fun c => absurd ((nI_leI (by omega) (by omega)).mp c) (by omega), fun _ => ?_⟩
      rw [nI_add, nI_add, nI_1, nI_clamp (by omega), nI_clamp (by omega), h.1 (4 * f + a) (by omega), h.1 (4 * t + a) (by omega)]
      refine ⟨fun c => absurd ((le_l 32 32 rfl (by decide) (by omega)).mp c) (by omega), fun _ => ⟨fun c => absurd ((le_l 32 32 rfl (by decide) (by omega)).mp c) (by omega), fun _ => ⟨nat_in (by omega) (by decide), nat_in (by omega) (by decide), fun c => ?_, fun c => ?_⟩⟩⟩
      · rw [if_pos c]; exact ih _ _ _ (by omega)
      · rw [if_neg c]; exact ih _ _ _ (by omega)
  exact L ar 0 (-1) 0 (by omega)
theorem bit_0 (x : Int32) {k : Nat} (hk : k < 31) : ((x >>> (nI k &&& 31)) &&& 1) = 0 ↔ bt x k = false := by
  have h1 := bit_q x hk
  have h2 := t_and1 (x >>> (nI k &&& 31))
  generalize (x >>> (nI k &&& 31)) &&& 1 = y at h1 h2
  constructor
  · intro q
    cases z : bt x k with
    | false => rfl
    | true => have := h1.mpr z; rw [q] at this; exact absurd this (by decide)
  · intro q
    have n1 : ¬ y = 1 := fun z => by have := h1.mp z; rw [q] at this; cases this
    have z1 : (1 : Int32).toInt = 1 := rfl
    have z0 : (0 : Int32).toInt = 0 := rfl
    have := z_ne n1
    exact (fa_eq _ _).mpr (by omega)
theorem isIllC (h : illC m (iE v)) {s : Nat} (hs : s < 8) : Ct ad μX1_isIll d [.ref (ad 3), .int (nI s)] m (fun r m' => m' = m ∧ r = some (.int (if iE v s = true then 1 else 0))) := by
  have hb := h s hs
  refine v_X1_isIll ⟨fun c => ⟨rfl, ?_⟩, fun c => ⟨rfl, ?_⟩⟩
  · have := (bit_0 _ (by omega)).mp c
    rw [hb] at this
    rw [if_neg (by rw [this]; decide)]
  · have : iE v s = true := by
      cases e : iE v s with
      | true => rfl
      | false => exact absurd ((bit_0 _ (by omega)).mpr (hb.trans e)) c
    rw [if_pos this]
set_option maxHeartbeats 1000000 in
theorem teachC (hb : SS b ρ) (hρ : GR ρ) (w : WT m) (f0 : Fx (RS [2, ρ]) m0 m) (h : HC b m g) (hE : EC m v) (hf : f < 8) (ht : t < 8) (hft : f ≠ t) {x4 : Int32} {cn : Bool} (hc : x4 = 0 ↔ cn = false) :
    Ct ad μX1_teach (d + 2) [.ref (ad 3), .ref (ad b), .int (nI f), .int (nI t), .int x4] m (fun r m' => r = none ∧ WT m' ∧ Fx (RS [2, ρ]) m0 m' ∧ HC b m' (tchG cn v f t g)) := by
  obtain ⟨e1, e2, e3, e4, e5, e6, e7⟩ := hE
  refine v_X1_teach hb.1 ?_
  rw [e2]
  refine (furthC (d := d) hb h hf ht e4).to ?_
  rintro _ m1 ⟨eq, rfl⟩
  obtain rfl := eq.symm
  refine ⟨_, rfl, fun c => ?_, fun c => ⟨rfl, w, f0, ?_⟩⟩
  · rcases artG_of (s := g.1) (f := f) (t := t) (n := aE v) with q | ⟨a, ha, q⟩
    · exact absurd q c
    have G : tchG cn v f t g = (upd (upd g.1 (4 * t + a) (g.1 (4 * t + a) + gnG (iE v f) (lE v 1) (g.1 (4 * t + a)) (g.1 (4 * f + a)))) (4 * f + a) (clS (g.1 (4 * f + a) + lE v 2 - 1)), g.2.1, (if cn = true then upd g.2.2.1 f (g.2.2.1 f + gnG (iE v f) (lE v 1) (g.1 (4 * t + a)) (g.1 (4 * f + a))) else g.2.2.1), g.2.2.2) := by
      unfold tchG gainG
      rw [if_neg c, q, nI_clamp (by omega)]
    rw [G, q]
    refine (skillC (d := d + 1) hb h ht (a := a) (by omega)).to ?_
    rintro _ m2 ⟨eq, rfl⟩
    obtain rfl := eq.symm
    refine ⟨_, rfl, (skillC (d := d + 1) hb h hf (a := a) (by omega)).to ?_⟩
    rintro _ m3 ⟨eq, rfl⟩
    obtain rfl := eq.symm
    refine ⟨_, rfl, (isIllC (d := d + 1) (v := v) e6.1 hf).to ?_⟩
    rintro _ m4 ⟨eq, rfl⟩
    obtain rfl := eq.symm
    generalize hn : gnG (iE v f) (lE v 1) (g.1 (4 * t + a)) (g.1 (4 * f + a)) = n
    have go : AW ad E0 μX1_teach (d + 1 + 1) (fun r m' => r = none ∧ WT m' ∧ Fx (RS [2, ρ]) m0 m' ∧ HC b m' (upd (upd g.1 (4 * t + a) (g.1 (4 * t + a) + n)) (4 * f + a) (clS (g.1 (4 * f + a) + lE v 2 - 1)), g.2.1, (if cn = true then upd g.2.2.1 f (g.2.2.1 f + n) else g.2.2.1), g.2.2.2)) 63 [(0, .ref (ad 3)), (1, .ref (ad b)), (2, .int (nI f)), (3, .int (nI t)), (4, .int x4), (5, .int (nI a)), (6, .int (g.1 (4 * t + a))), (7, .int (g.1 (4 * f + a)))] [.int n] m := by
      refine g_X1_teach_63 hb.1 ((putC (d := d + 1) hb ht (a := a) (by omega)).to ?_)
      rintro _ m5 ⟨rfl, rfl⟩
      have l2 : (uI m (b + 1) (4 * t + a) (g.1 (4 * t + a) + n)).1 4 2 = lE v 2 := (Fx.at (SS.fu hb (Fx.rf (m := m)) (j := 1) (by decide)) (a := 4) (k := 2) (nRS (ρ := 43) (all_ne (L := [1, 41, 42, 43]) hρ.e1 rfl) rfl)).trans (e5 2 (by decide))
      have e22 : (2 : Int32).toNatClampNeg = 2 := rfl
      rw [e22, l2]
      refine ⟨rfl, (clampS (d := d + 1)).to ?_⟩
      rintro _ m6 ⟨eq, rfl⟩
      obtain rfl := eq.symm
      refine ⟨_, rfl, (putC (d := d + 1) hb hf (a := a) (by omega)).to ?_⟩
      rintro _ m7 ⟨rfl, rfl⟩
      have w7 : WT (uI (uI m (b + 1) (4 * t + a) (g.1 (4 * t + a) + n)) (b + 1) (4 * f + a) (clS (g.1 (4 * f + a) + lE v 2 - 1))) := hb.wu (hb.wu w (by decide)) (by decide)
      have f7 : Fx (RS [2, ρ]) m0 (uI (uI m (b + 1) (4 * t + a) (g.1 (4 * t + a) + n)) (b + 1) (4 * f + a) (clS (g.1 (4 * f + a) + lE v 2 - 1))) := hb.fu (hb.fu f0 (by decide)) (by decide)
      have H7 : HC b (uI (uI m (b + 1) (4 * t + a) (g.1 (4 * t + a) + n)) (b + 1) (4 * f + a) (clS (g.1 (4 * f + a) + lE v 2 - 1))) (upd (upd g.1 (4 * t + a) (g.1 (4 * t + a) + n)) (4 * f + a) (clS (g.1 (4 * f + a) + lE v 2 - 1)), g.2) := (h.sk).sk
      have z : ∀ (m8 : Wm) (g8 : GS), WT m8 → Fx (RS [2, ρ]) m0 m8 → HC b m8 g8 → AW ad E0 μX1_teach (d + 1 + 1) (fun r m' => r = none ∧ WT m' ∧ Fx (RS [2, ρ]) m0 m' ∧ HC b m' g8) 117 [(0, .ref (ad 3)), (5, .int (nI a)), (8, .int n)] [] m8 := fun m8 g8 w8 f8 H8 => by
        have hb3 : ¬ (b ≤ 3 ∧ 3 ≤ b + 4) := fun q => by
          have r3 := (hb.2 (3 - b) 3 (by omega)).1
          rw [show b + (3 - b) = 3 by omega] at r3
          have r4 : rg 3 3 = 41 := rfl
          rw [r4] at r3
          rcases hρ with z | z | z | z | z | z | z <;> omega
        exact g_X1_teach_117 ⟨fun _ => ⟨rfl, w8, f8, H8⟩, fun _ => ⟨rfl, (w8.n rfl).n rfl, (f8.i (show RS [2, ρ] 3 6 from rfl)).i (show RS [2, ρ] 3 7 from rfl), (H8.o hb3).o hb3⟩⟩
      refine ⟨rfl, fun q => ?_, fun q => ?_⟩
      · rw [if_neg (by rw [hc.mp q]; decide)]
        exact z _ _ w7 f7 H7
      · have hcn : cn = true := by
          cases e : cn with
          | true => rfl
          | false => exact absurd (hc.mpr e) q
        rw [if_pos hcn, nI_clamp (by omega), H7.2.2.1 f hf]
        exact ⟨nat_in hf (by decide), nat_in hf (by decide), z _ _ (hb.wu w7 (by decide)) (hb.fu f7 (by decide)) H7.ra⟩
    have e11 : (1 : Int32).toNatClampNeg = 1 := rfl
    rw [e11, e5 1 (by decide)]
    refine ⟨_, rfl, fun q => ?_, fun q => ?_⟩
    · have hi : ¬ iE v f = true := fun z => by rw [if_pos z] at q; exact absurd q (by decide)
      have en : (if g.1 (4 * f + a) - g.1 (4 * t + a) < lE v 1 then g.1 (4 * f + a) - g.1 (4 * t + a) else lE v 1) = n := by rw [← hn]; unfold gnG; rw [if_neg hi]
      rw [en]
      exact go
    · have hi : iE v f = true := by
        cases e : iE v f with
        | true => rfl
        | false => exact absurd (by rw [e]; rfl) q
      have en : (0 : Int32) = n := by rw [← hn]; unfold gnG; rw [if_pos hi]
      rw [en]
      exact go
  · unfold tchG
    rw [if_pos c]
    exact h
end STL
section STM
variable {ad : Nat → Nat} {d b ρ a e f t : Nat} {m m' m0 : Wm} {g : GS} {v : EV} {S : List Nat}
theorem nI_r {k n : Nat} (hk : k < 2147483648) (hn : n < 2147483648) (h : ¬ k = n) : ¬ nI k = nI n := fun q => h ((nI_eq hk hn).mp q)
theorem pointsC (hb : SS b ρ) (w : WT m) (f0 : Fx (RS [2, ρ]) m0 m) (h : HC b m g) (ha : a < 8) (he : e < 8) {x : Int32} : Ct ad μX1_givePoints d [.ref (ad b), .int (nI a), .int (nI e), .int x] m (fun r m' => r = none ∧ WT m' ∧ Fx (RS [2, ρ]) m0 m' ∧ HC b m' (ptG a e x g)) := by
  have p0 := h.2.1
  refine v_X1_givePoints hb.1 ?_
  rw [nI_clamp (by omega), nI_clamp (by omega), p0 a ha, p0 e he]
  have V1 : vp_in (nI a) 8 := nat_in ha (by decide)
  have V2 : vp_in (nI e) 8 := nat_in he (by decide)
  refine ⟨fun n2 => ⟨fun n0 => ⟨V2, V2, rfl, hb.wu w (by decide), hb.fu f0 (by decide), ?_⟩, fun q0 => ⟨V1, V1, rfl, hb.wu w (by decide), hb.fu f0 (by decide), ?_⟩⟩, fun q2 => ⟨V1, V1, V2, V2, rfl, hb.wu (hb.wu w (by decide)) (by decide), hb.fu (hb.fu f0 (by decide)) (by decide), ?_⟩⟩
  · unfold ptG
    rw [if_neg n2, if_neg n0]
    exact h.pt
  · unfold ptG
    rw [if_neg n2, if_pos q0]
    exact h.pt
  · have e1 : (uI m (b + 2) a (g.2.1 a + 1)).1 (b + 2) e = upd g.2.1 a (g.2.1 a + 1) e := h.pt.2.1 e he
    rw [e1]
    unfold ptG
    rw [if_pos q2]
    exact (h.pt).pt
theorem settleC (hb : SS b ρ) (hρ : GR ρ) (w : WT m) (h : HC b m g) (hE : EC m v) (ha : a < 8) (he : e < 8) (hae : a ≠ e) {x4 x5 : Int32} {cn : Bool} (hc : x5 = 0 ↔ cn = false) :
    Ct ad μX1_settle (d + 3) [.ref (ad 3), .ref (ad b), .int (nI a), .int (nI e), .int x4, .int x5] m (fun r m' => r = none ∧ WT m' ∧ Fx (RS [2, ρ]) m m' ∧ HC b m' (stlG cn v a e x4 g)) := by
  have e00 : (0 : Int32).toNatClampNeg = 0 := rfl
  have hb3 : ¬ (b ≤ 3 ∧ 3 ≤ b + 4) := fun q => by
    have r3 := (hb.2 (3 - b) 3 (by omega)).1
    rw [show b + (3 - b) = 3 by omega] at r3
    have r4 : rg 3 3 = 41 := rfl
    rw [r4] at r3
    rcases hρ with z | z | z | z | z | z | z <;> omega
  have lw0 : ∀ m1, Fx (RS [2, ρ]) m m1 → m1.1 4 0 = lE v 0 := fun m1 f1 => (f1.at (nRS (ρ := 43) (all_ne (L := [1, 41, 42, 43]) hρ.e1 rfl) rfl)).trans (hE.2.2.2.2.1 0 (by decide))
  -- who won, who lost
  have WL : ∀ (wi lo : Nat) (g1 : GS) (m1 : Wm), wi < 8 → lo < 8 → wi ≠ lo → WT m1 → Fx (RS [2, ρ]) m m1 → HC b m1 g1 → AW ad E0 μX1_settle (d + 2 + 1) (fun r m' => r = none ∧ WT m' ∧ Fx (RS [2, ρ]) m m' ∧ HC b m' (stl2 cn v wi lo (stl1 cn v wi lo g1))) 52 [(0, .ref (ad 3)), (1, .ref (ad b)), (5, .int x5), (6, .int (nI wi))] [.int (nI lo)] m1 := by
    intro wi lo g1 m1 hwi hlo hwl w1 f1 H1
    have B : ∀ (g2 : GS) (m2 : Wm), WT m2 → Fx (RS [2, ρ]) m m2 → HC b m2 g2 → AW ad E0 μX1_settle (d + 2 + 1) (fun r m' => r = none ∧ WT m' ∧ Fx (RS [2, ρ]) m m' ∧ HC b m' (stl2 cn v wi lo g2)) 84 [(0, .ref (ad 3)), (1, .ref (ad b)), (5, .int x5), (6, .int (nI wi)), (7, .int (nI lo))] [] m2 := by
      intro g2 m2 w2 f2 H2
      have T : lE v 0 = 1 ∨ lE v 0 = 2 → AW ad E0 μX1_settle (d + 2 + 1) (fun r m' => r = none ∧ WT m' ∧ Fx (RS [2, ρ]) m m' ∧ HC b m' (stl2 cn v wi lo g2)) 104 [(0, .ref (ad 3)), (1, .ref (ad b)), (5, .int x5), (6, .int (nI wi)), (7, .int (nI lo))] [] m2 := fun q => by
        refine g_X1_settle_104 hb.1 ((teachC (d := d) hb hρ w2 f2 H2 (hE.fx f2 hρ.e1) hlo hwi (Ne.symm hwl) hc).to ?_)
        rintro _ m3 ⟨rfl, w3, f3, H3⟩
        refine ⟨rfl, rfl, w3, f3, ?_⟩
        unfold stl2
        rw [if_pos q]
        exact H3
      refine g_X1_settle_84 hb.1 ?_
      rw [e00, lw0 m2 f2]
      refine ⟨fun q => T (Or.inl q), fun n1 => ⟨fun n2 => ⟨rfl, w2, f2, ?_⟩, fun q => T (Or.inr q)⟩⟩
      unfold stl2
      rw [if_neg (fun z => z.elim n1 n2)]
      exact H2
    have T : lE v 0 = 0 ∨ lE v 0 = 2 → Ct ad μX1_teach (d + 2) [.ref (ad 3), .ref (ad b), .int (nI wi), .int (nI lo), .int x5] m1 (fun r m2 => r = none ∧ AW ad E0 μX1_settle (d + 2 + 1) (fun r m' => r = none ∧ WT m' ∧ Fx (RS [2, ρ]) m m' ∧ HC b m' (stl2 cn v wi lo (stl1 cn v wi lo g1))) 84 [(0, .ref (ad 3)), (1, .ref (ad b)), (5, .int x5), (6, .int (nI wi)), (7, .int (nI lo))] [] m2) := fun q => by
      refine (teachC (d := d) hb hρ w1 f1 H1 (hE.fx f1 hρ.e1) hwi hlo hwl hc).to ?_
      rintro _ m3 ⟨rfl, w3, f3, H3⟩
      refine ⟨rfl, ?_⟩
      have es : stl1 cn v wi lo g1 = tchG cn v wi lo g1 := if_pos q
      rw [es]
      exact B _ _ w3 f3 H3
    refine g_X1_settle_52 hb.1 ?_
    rw [e00, lw0 m1 f1]
    refine ⟨fun q => T (Or.inl q), fun n0 => ⟨fun n2 => ?_, fun q => T (Or.inr q)⟩⟩
    have es : stl1 cn v wi lo g1 = g1 := if_neg (fun z => z.elim n0 n2)
    rw [es]
    exact B _ _ w1 f1 H1
  -- behind the points
  have A : ∀ (g1 : GS) (m1 : Wm), (g1 = if cn = true then ptG a e x4 g else g) → WT m1 → Fx (RS [2, ρ]) m m1 → HC b m1 g1 → AW ad E0 μX1_settle (d + 2 + 1) (fun r m' => r = none ∧ WT m' ∧ Fx (RS [2, ρ]) m m' ∧ HC b m' (stlG cn v a e x4 g)) 23 [(0, .ref (ad 3)), (1, .ref (ad b)), (2, .int (nI a)), (3, .int (nI e)), (4, .int x4), (5, .int x5)] [] m1 := by
    intro g1 m1 hg w1 f1 H1
    refine g_X1_settle_23 hb.1 ⟨fun n2 => ⟨fun n0 => ⟨fun _ => ?_, fun q => absurd q n0⟩, fun q0 => ⟨fun q => absurd q0 q, fun _ => ?_⟩⟩, fun q2 => ⟨rfl, w1, f1, ?_⟩⟩
    · unfold stlG
      rw [if_neg n2, if_neg n0, if_neg n0, ← hg]
      exact WL e a g1 m1 he ha (Ne.symm hae) w1 f1 H1
    · unfold stlG
      rw [if_neg n2, if_pos q0, if_pos q0, ← hg]
      exact WL a e g1 m1 ha he hae w1 f1 H1
    · unfold stlG
      rw [if_pos q2, ← hg]
      exact H1
  have w2 : WT (uI (uI m 3 6 (-1 : Int32)) 3 7 (0 : Int32)) := (w.n rfl).n rfl
  have f2 : Fx (RS [2, ρ]) m (uI (uI m 3 6 (-1 : Int32)) 3 7 (0 : Int32)) := ((Fx.rf (S := RS [2, ρ])).i (show RS [2, ρ] 3 6 from rfl)).i (show RS [2, ρ] 3 7 from rfl)
  have H2 : HC b (uI (uI m 3 6 (-1 : Int32)) 3 7 (0 : Int32)) g := (h.o hb3).o hb3
  refine v_X1_settle hb.1 ⟨fun q => ?_, fun q => (pointsC (d := d + 2) hb w2 f2 H2 ha he).to ?_⟩
  · exact A g _ (by rw [hc.mp q]; rfl) w2 f2 H2
  · rintro _ m1 ⟨rfl, w1, f1, H1⟩
    have hcn : cn = true := by
      cases hc2 : cn with
      | true => rfl
      | false => exact absurd (hc.mpr hc2) q
    exact ⟨rfl, A _ m1 (by rw [if_pos hcn]) w1 f1 H1⟩
end STM
/-! what a side can do, who wins, the chance -/
def pwG (v : EV) (g : GS) (s : Nat) : Int32 := pwF (tE v) (zE v) g.1 g.2.1 g.2.2.1 (aE v) s
def rsG (v : EV) (x : Int32) : Int32 := if x ≤ lE v 3 then (if -x ≤ lE v 3 then 2 else 1) else 0
def wnG (v : EV) (g : GS) (a b : Nat) (th : Int32) : Int32 := if th = 1 then 1 else if th = 2 then 0 else if th = 3 then 2 else rsG v (pwG v g a - pwG v g b)
def clH (x : Int32) : Int32 := if 0 < (if x < 100 then x else 100) then (if x < 100 then x else 100) else 0
def chG (v : EV) (g : GS) (a b : Nat) : Int32 := clH (50 + lE v 4 * (pwG v g a - pwG v g b))
theorem clampH {ad : Nat → Nat} {d : Nat} {m : Wm} {x : Int32} : Ct ad μX11_clamp d [.int x, .int 0, .int 100] m (fun r m' => m' = m ∧ r = some (.int (clH x))) := (clampC (by decide)).to (fun r m1 h => h)
section RES
variable {ad : Nat → Nat} {d b ρ a e s : Nat} {m m' m0 : Wm} {g : GS} {v : EV}
theorem fr14 {m1 : Wm} (f : Fx (RS [14]) m m1) : Fx (RS [14]) m m1 := f
/-- the class's power, by the rule in force -/
theorem valueC (hb : SS b ρ) (hρ : GR ρ) (w : WT m) (h : HC b m g) (hE : EC m v) (hs : s < 8) : ∃ P, m.2.2 3 1 = some P ∧ Ru P ∧ Ct ad μX5_value (d + 3) [.ref (ad P), .ref (ad b), .int (nI s), .int (nI (aE v))] m (fun r m' => WT m' ∧ Fx (RS [14]) m m' ∧ r = some (.int (pwG v g s))) := by
  obtain ⟨e1, e2, e3, e4, e5, e6, P, Q, hR, cl, hX, hv⟩ := hE
  have hP : P = 5 ∨ P = 10 := by have := hR.2.2; omega
  refine ⟨P, hR.1, Ru_of hP, ?_⟩
  rcases hv with ⟨hz, hn⟩ | ⟨hz, hn, hv⟩
  · refine (e_value (v := 0) hb hρ.e2 hP w h hs e4 hX (fun q => absurd hn q)).to ?_
    rintro r m1 ⟨w1, f1, rfl⟩
    refine ⟨w1, f1, ?_⟩
    unfold pwG pwF
    rw [if_pos hn, if_pos hz]
  · refine (e_value hb hρ.e2 hP w h hs e4 hX (fun _ => hv _)).to ?_
    rintro r m1 ⟨w1, f1, rfl⟩
    refine ⟨w1, f1, ?_⟩
    unfold pwG pwF
    rw [if_neg hn, if_neg hz]
theorem resultOfC (h : ∀ k, k < 5 → m.1 4 k = lE v k) {x : Int32} : Ct ad μX1_resultOf d [.ref (ad 3), .int x] m (fun r m' => m' = m ∧ r = some (.int (rsG v x))) := by
  have e33 : (3 : Int32).toNatClampNeg = 3 := rfl
  refine v_X1_resultOf ?_
  rw [e33, h 3 (by decide)]
  unfold rsG
  exact ⟨fun c => ⟨fun c2 => ⟨rfl, by rw [if_pos c, if_pos c2]⟩, fun c2 => ⟨rfl, by rw [if_pos c, if_neg c2]⟩⟩, fun c => ⟨rfl, by rw [if_neg c]⟩⟩
theorem resultC (hb : SS b ρ) (hρ : GR ρ) (w : WT m) (h : HC b m g) (hE : EC m v) (ha : a < 8) (he : e < 8) {th : Int32} (ht : th = 0 ∨ th = 1 ∨ th = 2 ∨ th = 3) : Ct ad μX1_result (d + 4) [.ref (ad 3), .ref (ad b), .int (nI a), .int (nI e), .int th] m (fun r m' => WT m' ∧ Fx (RS [14]) m m' ∧ r = some (.int (wnG v g a e th))) := by
  refine v_X1_result (d := d + 3) hb.1 ⟨fun n3 => ⟨fun q0 => ?_, fun n0 => ⟨fun n1 => ⟨w, Fx.rf, ?_⟩, fun q1 => ⟨w, Fx.rf, ?_⟩⟩⟩, fun q3 => ⟨w, Fx.rf, ?_⟩⟩
  · subst q0
    obtain ⟨P, hP, hRu, hV⟩ := valueC (ad := ad) (d := d) hb hρ w h hE ha
    refine ⟨P, hP, hRu, ?_⟩
    rw [hE.2.1]
    refine hV.to ?_
    rintro _ m1 ⟨w1, f1, rfl⟩
    have H1 := h.fx hb f1 hρ.e2
    have E1 := hE.fx f1 rfl
    obtain ⟨P2, hP2, hRu2, hV2⟩ := valueC (ad := ad) (d := d) hb hρ w1 H1 E1 he
    refine ⟨_, rfl, P2, hP2, hRu2, ?_⟩
    rw [E1.2.1]
    refine hV2.to ?_
    rintro _ m2 ⟨w2, f2, rfl⟩
    refine ⟨_, rfl, (resultOfC (d := d + 3) (v := v) (E1.fx f2 rfl).2.2.2.2.1).to ?_⟩
    rintro _ m3 ⟨eq, rfl⟩
    obtain rfl := eq.symm
    exact ⟨_, rfl, w2, f1.tr f2 (fun _ _ h => h), rfl⟩
  · rcases ht with q | q | q | q
    · exact absurd q n0
    · exact absurd q n1
    · rw [q]; rfl
    · exact absurd q n3
  · rw [q1]; rfl
  · rw [q3]; rfl
theorem chanceC (hb : SS b ρ) (hρ : GR ρ) (w : WT m) (h : HC b m g) (hE : EC m v) (ha : a < 8) (he : e < 8) : Ct ad μX1_chance (d + 4) [.ref (ad 3), .ref (ad b), .int (nI a), .int (nI e)] m (fun r m' => WT m' ∧ Fx (RS [14]) m m' ∧ r = some (.int (chG v g a e))) := by
  have e44 : (4 : Int32).toNatClampNeg = 4 := rfl
  obtain ⟨P, hP, hRu, hV⟩ := valueC (ad := ad) (d := d) hb hρ w h hE ha
  refine v_X1_chance (d := d + 3) hb.1 ⟨P, hP, hRu, ?_⟩
  rw [hE.2.1, e44, hE.2.2.2.2.1 4 (by decide)]
  refine hV.to ?_
  rintro _ m1 ⟨w1, f1, rfl⟩
  have H1 := h.fx hb f1 hρ.e2
  have E1 := hE.fx f1 rfl
  obtain ⟨P2, hP2, hRu2, hV2⟩ := valueC (ad := ad) (d := d) hb hρ w1 H1 E1 he
  refine ⟨_, rfl, P2, hP2, hRu2, ?_⟩
  rw [E1.2.1]
  refine hV2.to ?_
  rintro _ m2 ⟨w2, f2, rfl⟩
  refine ⟨_, rfl, (clampH (d := d + 3)).to ?_⟩
  rintro _ m3 ⟨eq, rfl⟩
  obtain rfl := eq.symm
  exact ⟨_, rfl, w2, f1.tr f2 (fun _ _ h => h), rfl⟩
end RES
