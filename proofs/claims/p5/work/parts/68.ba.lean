/-! THE GAME'S CORE, as both sides play it; and the class's side of what a side can do -/
/-- skills, points, raised, thrown, luck -/
abbrev GS : Type := (Nat → Int32) × (Nat → Int32) × (Nat → Int32) × (Nat → Int32) × Int32
/-- sides, arts, the law's settings, who is ill, the rule's text, its length -/
abbrev EV : Type := Nat × Nat × (Nat → Int32) × (Nat → Bool) × (Nat → Int32) × Nat
def nE (v : EV) : Nat := v.1
def aE (v : EV) : Nat := v.2.1
def lE (v : EV) : Nat → Int32 := v.2.2.1
def iE (v : EV) : Nat → Bool := v.2.2.2.1
def tE (v : EV) : Nat → Int32 := v.2.2.2.2.1
def zE (v : EV) : Nat := v.2.2.2.2.2
def HC (b : Nat) (m : Wm) (g : GS) : Prop := (∀ k, k < 32 → m.1 (b + 1) k = g.1 k) ∧ (∀ k, k < 8 → m.1 (b + 2) k = g.2.1 k) ∧ (∀ k, k < 8 → m.1 (b + 3) k = g.2.2.1 k) ∧ (∀ k, k < 8 → m.1 (b + 4) k = g.2.2.2.1 k) ∧ m.1 b 4 = g.2.2.2.2
/-- of the sides that there are -/
def HM (n : Nat) (m : Wm) (g : GS) : Prop := (∀ k, k < 4 * n → m.1 188 k = g.1 k) ∧ (∀ k, k < n → m.1 190 k = g.2.1 k) ∧ (∀ k, k < n → m.1 191 k = g.2.2.1 k) ∧ (∀ k, k < n → m.1 192 k = g.2.2.2.1 k) ∧ m.1 187 8 = g.2.2.2.2
def illC (m : Wm) (il : Nat → Bool) : Prop := ∀ s, s < 8 → bt (m.1 3 5) s = il s
/-- the rule in force comes to what the text tx of z signs comes to -/
def RuT (m : Wm) (tx : Nat → Int32) (z : Nat) : Prop := ∃ P Q, RuR m P Q ∧ ∃ cl, CodeX P cl m ∧ ((z = 0 ∧ cl = []) ∨ (z ≠ 0 ∧ cl ≠ [] ∧ ∀ lt, evR lt cl [] = some [(prF tx z lt 164 3 0 (0, -1)).1]))
def EC (m : Wm) (v : EV) : Prop := m.1 3 3 = nI (nE v) ∧ m.1 3 4 = nI (aE v) ∧ nE v ≤ 8 ∧ aE v ≤ 4 ∧ (∀ k, k < 5 → m.1 4 k = lE v k) ∧ (illC m (iE v) ∧ ∀ s, nE v ≤ s → iE v s = false) ∧ RuT m (tE v) (zE v)
def EM (m : Wm) (v : EV) : Prop := m.1 187 1 = nI (nE v) ∧ m.1 187 0 = nI (aE v) ∧ nE v ≤ 8 ∧ aE v ≤ 4 ∧ (∀ k, k < 5 → m.1 193 k = lE v k) ∧ (∀ s, s < nE v → m.1 189 s = if iE v s = true then 1 else 0) ∧ m.1 187 27 = nI (zE v) ∧ zE v ≤ 40 ∧ ∀ k, k < zE v → m.1 200 k = tE v k
section COR
variable {ad : Nat → Nat} {d b ρ s ar : Nat} {m m' : Wm} {g : GS} {v : EV} {S : List Nat}
theorem HC.fx (h : HC b m g) (hb : SS b ρ) (f : Fx (RS S) m m') (e : S.elem ρ = false) : HC b m' g := by
  obtain ⟨h1, h2, h3, h4, h5⟩ := h
  have r : ∀ j k, j ≤ 4 → m'.1 (b + j) k = m.1 (b + j) k := fun j k hj => f.at (nRS e (hb.2 j k hj).1)
  exact ⟨fun k hk => (r 1 k (by decide)).trans (h1 k hk), fun k hk => (r 2 k (by decide)).trans (h2 k hk), fun k hk => (r 3 k (by decide)).trans (h3 k hk), fun k hk => (r 4 k (by decide)).trans (h4 k hk), (r 0 4 (by decide)).trans h5⟩
theorem HM.fx {n : Nat} (h : HM n m g) (f : Fx (RS S) m m') (e : S.elem 24 = false) (e2 : S.elem 49 = false) : HM n m' g := by
  obtain ⟨h1, h2, h3, h4, h5⟩ := h
  exact ⟨fun k hk => (f.at (nRS (ρ := 24) e rfl)).trans (h1 k hk), fun k hk => (f.at (nRS (ρ := 24) e rfl)).trans (h2 k hk), fun k hk => (f.at (nRS (ρ := 24) e rfl)).trans (h3 k hk), fun k hk => (f.at (nRS (ρ := 24) e rfl)).trans (h4 k hk), (f.at (nRS (ρ := 49) e2 rfl)).trans h5⟩
theorem RuT.fx {tx : Nat → Int32} {z : Nat} (h : RuT m tx z) (f : Fx (RS S) m m') (e : S.elem 1 = false) : RuT m' tx z := by
  obtain ⟨P, Q, hR, cl, hX, hv⟩ := h
  have hP : P = 5 ∨ P = 10 := by have := hR.2.2; omega
  have r : ∀ j k, j = 0 ∨ j = 1 → m'.1 (P + j) k = m.1 (P + j) k := fun j k hj => f.at (nRS e (rg_1 hP hj))
  exact ⟨P, Q, ⟨((f 3 1 (nRS e rfl)).2.2).trans hR.1, ((f 3 2 (nRS e rfl)).2.2).trans hR.2.1, hR.2.2⟩, cl, ⟨(r 0 4 (Or.inl rfl)).trans hX.1, hX.2.1.k (fun k => r 1 k (Or.inr rfl)), hX.2.2⟩, hv⟩
theorem EC.fx (h : EC m v) (f : Fx (RS S) m m') (e : S.all (fun x => !(([1, 41, 42, 43] : List Nat).elem x)) = true) : EC m' v := by
  obtain ⟨h1, h2, h3, h4, h5, h6, h7⟩ := h
  refine ⟨(f.at (nRS (all_ne e (ρ := 41) rfl) rfl)).trans h1, (f.at (nRS (all_ne e (ρ := 41) rfl) rfl)).trans h2, h3, h4, fun k hk => (f.at (nRS (all_ne e (ρ := 43) rfl) rfl)).trans (h5 k hk), ⟨fun s hs => ?_, h6.2⟩, h7.fx f (all_ne e (ρ := 1) rfl)⟩
  rw [f.at (a := 3) (k := 5) (nRS (all_ne e (ρ := 42) rfl) rfl)]
  exact h6.1 s hs
theorem EM.fx (h : EM m v) (f : Fx (RS S) m m') (e : S.all (fun x => !(([23, 46, 47, 48] : List Nat).elem x)) = true) : EM m' v := by
  obtain ⟨h1, h2, h3, h4, h5, h6, h7, h8, h9⟩ := h
  exact ⟨(f.at (nRS (all_ne e (ρ := 23) rfl) rfl)).trans h1, (f.at (nRS (all_ne e (ρ := 23) rfl) rfl)).trans h2, h3, h4, fun k hk => (f.at (nRS (all_ne e (ρ := 47) rfl) rfl)).trans (h5 k hk), fun s hs => (f.at (nRS (all_ne e (ρ := 46) rfl) rfl)).trans (h6 s hs), (f.at (nRS (all_ne e (ρ := 48) rfl) rfl)).trans h7, h8, fun k hk => (f.at (nRS (all_ne e (ρ := 48) rfl) rfl)).trans (h9 k hk)⟩
theorem sk_ix {a : Nat} : nI s * (4 : Int32) + nI a = nI (4 * s + a) := by rw [mul_l 4 4 rfl, nI_add, Nat.mul_comm]
theorem skillC (hb : SS b ρ) (h : HC b m g) {a : Nat} (hs : s < 8) (ha : a < 4) : Ct ad μX8_skillOf d [.ref (ad b), .int (nI s), .int (nI a)] m (fun r m' => m' = m ∧ r = some (.int (g.1 (4 * s + a)))) := by
  refine v_X8_skillOf hb.1 ?_
  rw [sk_ix, nI_clamp (by omega), h.1 (4 * s + a) (by omega)]
  exact ⟨fun c => absurd ((l_lt 0 0 rfl (by decide) (by omega)).mp c) (by omega), fun _ => ⟨fun c => absurd ((le_l 32 32 rfl (by decide) (by omega)).mp c) (by omega), fun _ => ⟨nat_in (by omega) (by decide), rfl, rfl⟩⟩⟩
theorem putC (hb : SS b ρ) {a : Nat} {x : Int32} (hs : s < 8) (ha : a < 4) : Ct ad μX8_putSkill d [.ref (ad b), .int (nI s), .int (nI a), .int x] m (fun r m' => r = none ∧ m' = uI m (b + 1) (4 * s + a) x) := by
  refine v_X8_putSkill hb.1 ?_
  rw [sk_ix, nI_clamp (by omega)]
  exact ⟨fun c => absurd ((l_lt 0 0 rfl (by decide) (by omega)).mp c) (by omega), fun _ => ⟨fun c => absurd ((le_l 32 32 rfl (by decide) (by omega)).mp c) (by omega), fun _ => ⟨nat_in (by omega) (by decide), rfl, rfl⟩⟩⟩
theorem ix_end (hs : s < 8) (ha : ar ≤ 4) : (if (32 : Int32) < nI s * (4 : Int32) + nI ar then (32 : Int32) else nI s * (4 : Int32) + nI ar) = nI (4 * s + ar) := by
  rw [sk_ix, if_neg (fun c => by have := (lt_l 32 32 rfl (by decide) (by omega)).mp c; omega)]
theorem ix_beg (hs : s < 8) : (if nI s < (0 : Int32) then (0 : Int32) else nI s) * (4 : Int32) = nI (4 * s) := by
  rw [if_neg (fun c => by have := (l_lt 0 0 rfl (by decide) (by omega)).mp c; omega), mul_l 4 4 rfl, Nat.mul_comm]
theorem sumC (hb : SS b ρ) (h : HC b m g) (hs : s < 8) (ha : ar ≤ 4) : Ct ad μX8_sum (d + 1) [.ref (ad b), .int (nI s), .int (nI ar)] m (fun r m' => m' = m ∧ r = some (.int (smF g.1 (4 * s) ar))) := by
  refine v_X8_sum hb.1 ?_
  rw [ix_end hs ha, ix_beg hs]
  refine down (N := ar) (P := fun k => AW ad E0 μX8_sum (d + 1) (fun r m' => m' = m ∧ r = some (.int (smF g.1 (4 * s) ar))) 26 [(0, .ref (ad b)), (3, .int (smF g.1 (4 * s) k)), (4, .int (nI (4 * s + ar))), (5, .int (nI (4 * s + k)))] [] m) ?_ ?_ (Nat.zero_le _)
  · exact g_X8_sum_26 hb.1 ⟨fun _ => ⟨rfl, rfl⟩, fun c => absurd ((nI_leI (by omega) (by omega)).mpr (Nat.le_refl _)) c⟩
  · intro k hk ih
    refine g_X8_sum_26 hb.1 ⟨fun c => absurd ((nI_leI (by omega) (by omega)).mp c) (by omega), fun _ => ?_⟩
    rw [nI_clamp (by omega), h.1 (4 * s + k) (by omega), nI_1]
    exact ⟨nat_in (by omega) (by decide), ih⟩
theorem mostC (hb : SS b ρ) (h : HC b m g) (hs : s < 8) (ha : ar ≤ 4) : Ct ad μX8_greatest (d + 1) [.ref (ad b), .int (nI s), .int (nI ar)] m (fun r m' => m' = m ∧ r = some (.int (mxF g.1 (4 * s) ar))) := by
  refine v_X8_greatest hb.1 ?_
  rw [ix_end hs ha, ix_beg hs]
  refine down (N := ar) (P := fun k => AW ad E0 μX8_greatest (d + 1) (fun r m' => m' = m ∧ r = some (.int (mxF g.1 (4 * s) ar))) 26 [(0, .ref (ad b)), (3, .int (mxF g.1 (4 * s) k)), (4, .int (nI (4 * s + ar))), (5, .int (nI (4 * s + k)))] [] m) ?_ ?_ (Nat.zero_le _)
  · exact g_X8_greatest_26 hb.1 ⟨fun _ => ⟨rfl, rfl⟩, fun c => absurd ((nI_leI (by omega) (by omega)).mpr (Nat.le_refl _)) c⟩
  · intro k hk ih
    refine g_X8_greatest_26 hb.1 ⟨fun c => absurd ((nI_leI (by omega) (by omega)).mp c) (by omega), fun _ => ?_⟩
    rw [nI_clamp (by omega), h.1 (4 * s + k) (by omega), nI_1]
    exact ⟨nat_in (by omega) (by decide), ih⟩
theorem leastC (hb : SS b ρ) (h : HC b m g) (hs : s < 8) (ha : ar ≤ 4) : Ct ad μX8_least (d + 1) [.ref (ad b), .int (nI s), .int (nI ar)] m (fun r m' => m' = m ∧ r = some (.int (mnF g.1 (4 * s) ar))) := by
  refine v_X8_least hb.1 ?_
  rw [ix_end hs ha, ix_beg hs]
  refine down (N := ar) (P := fun k => AW ad E0 μX8_least (d + 1) (fun r m' => m' = m ∧ r = some (.int (mnF g.1 (4 * s) ar))) 27 [(0, .ref (ad b)), (3, .int (mnF g.1 (4 * s) k)), (4, .int (nI (4 * s + ar))), (5, .int (nI (4 * s + k)))] [] m) ?_ ?_ (Nat.zero_le _)
  · exact g_X8_least_27 hb.1 ⟨fun _ => ⟨rfl, rfl⟩, fun c => absurd ((nI_leI (by omega) (by omega)).mpr (Nat.le_refl _)) c⟩
  · intro k hk ih
    refine g_X8_least_27 hb.1 ⟨fun c => absurd ((nI_leI (by omega) (by omega)).mp c) (by omega), fun _ => ?_⟩
    rw [nI_clamp (by omega), h.1 (4 * s + k) (by omega), nI_1]
    exact ⟨nat_in (by omega) (by decide), ih⟩
theorem thingC (hb : SS b ρ) (h : HC b m g) (hs : s < 8) (ha : ar ≤ 4) {c : Int32} (hc : isLt c) : Ct ad μX5_thing (d + 2) [.int c, .ref (ad b), .int (nI s), .int (nI ar)] m (fun r m' => m' = m ∧ r = some (.int (ltF g.1 g.2.1 g.2.2.1 ar s c))) := by
  refine v_X5_thing hb.1 ⟨?_, ?_, ?_, ?_, ?_, ?_, ?_⟩
  · rintro rfl
    exact ⟨rfl, rfl⟩
  · rintro rfl
    refine (leastC hb h hs ha).to ?_
    rintro _ m1 ⟨eq, rfl⟩
    obtain rfl := eq.symm
    exact ⟨_, rfl, rfl, rfl⟩
  · rintro rfl
    refine (mostC hb h hs ha).to ?_
    rintro _ m1 ⟨eq, rfl⟩
    obtain rfl := eq.symm
    exact ⟨_, rfl, rfl, rfl⟩
  · rintro rfl
    refine ⟨nat_in hs (by decide), rfl, ?_⟩
    rw [nI_clamp (by omega), h.2.1 s hs]
    rfl
  · rintro rfl
    refine ⟨nat_in hs (by decide), rfl, ?_⟩
    rw [nI_clamp (by omega), h.2.2.1 s hs]
    rfl
  · rintro rfl
    refine (sumC hb h hs ha).to ?_
    rintro _ m1 ⟨eq, rfl⟩
    obtain rfl := eq.symm
    exact ⟨_, rfl, rfl, rfl⟩
  · intro h1 h2 h3 h4 h5 h6
    have hr : 97 ≤ c ∧ c ≤ 100 := by
      rcases hc with q | q | q | q | q | q | q
      · exact q
      · exact absurd q h6
      · exact absurd q h3
      · exact absurd q h2
      · exact absurd q h1
      · exact absurd q h4
      · exact absurd q h5
    have q1 := y_lel (n := 97) rfl hr.1
    have q2 := y_ler (n := 100) rfl hr.2
    have z97 : (97 : Int32).toInt = 97 := rfl
    have q4 := ti_sub (x := c) (y := (97 : Int32)) (by omega)
    obtain ⟨j, hj, ej⟩ := zn_of (x := c - 97) (by omega)
    have q5 : (c - 97).toInt = j := by rw [ej, nI_toInt hj]
    have z0 : (0 : Int32).toInt = 0 := rfl
    have z1 : (1 : Int32).toInt = 1 := rfl
    have q3 : (nI ar).toInt = ar := nI_toInt (by omega)
    have q6 := ti_sub (x := nI ar) (y := (1 : Int32)) (by omega)
    have e0 : ltF g.1 g.2.1 g.2.2.1 ar s c = if 0 ≤ c - 97 ∧ c - 97 ≤ nI ar - 1 then g.1 (4 * s + (c - 97).toNatClampNeg) else 0 := by
      unfold ltF
      rw [if_neg h1, if_neg h2, if_neg h3, if_neg h4, if_neg h5, if_neg h6]
    refine ⟨fun q => ⟨rfl, ?_⟩, fun q => ?_⟩
    · have := z_le q
      rw [e0, if_neg (fun z => by have := z_le z.2; omega)]
    · have := z_nle q
      rw [e0, if_pos ⟨(fa_le _ _).mpr (by omega), (fa_le _ _).mpr (by omega)⟩, ej, nI_clamp hj]
      refine (skillC hb h hs (a := j) (by omega)).to ?_
      rintro _ m1 ⟨eq, rfl⟩
      obtain rfl := eq.symm
      exact ⟨_, rfl, rfl, rfl⟩
theorem joinC {c x y : Int32} : Ct ad μX5_joined d [.int c, .int x, .int y] m (fun r m' => m' = m ∧ r = some (.int (jnF c x y))) := by
  refine v_X5_joined ⟨?_, ?_, ?_, ?_, ?_, ?_, ?_⟩
  · rintro rfl; exact ⟨rfl, rfl⟩
  · rintro rfl; exact ⟨rfl, rfl⟩
  · rintro rfl; exact ⟨rfl, rfl⟩
  · rintro rfl
    have e : jnF 60 x y = if x < y then 1 else 0 := rfl
    rw [e]
    exact ⟨fun q => ⟨rfl, by rw [if_neg (fun z => by have := z_le q; have := z_lt z; omega)]⟩, fun q => ⟨rfl, by rw [if_pos ((fa_lt _ _).mpr (z_nle q))]⟩⟩
  · rintro rfl
    have e : jnF 61 x y = if x = y then 1 else 0 := rfl
    rw [e]
    exact ⟨fun q => ⟨rfl, by rw [if_neg q]⟩, fun q => ⟨rfl, by rw [if_pos q]⟩⟩
  · rintro rfl
    have e : jnF 62 x y = if y < x then 1 else 0 := rfl
    rw [e]
    exact ⟨fun q => ⟨rfl, by rw [if_neg (fun z => by have := z_le q; have := z_lt z; omega)]⟩, fun q => ⟨rfl, by rw [if_pos ((fa_lt _ _).mpr (z_nle q))]⟩⟩
  · intro n42 n43 n45 n60 n61 n62
    have e : jnF c x y = if y = 0 then 0 else x / y := by
      unfold jnF
      rw [if_neg n60, if_neg n62, if_neg n61, if_neg n43, if_neg n45, if_neg n42]
    rw [e]
    exact ⟨fun q => ⟨q, rfl, by rw [if_neg q]⟩, fun q => ⟨rfl, by rw [if_pos q]⟩⟩
theorem clampC {x lo hi : Int32} (h : lo.toInt ≤ hi.toInt) : Ct ad μX11_clamp d [.int x, .int lo, .int hi] m (fun r m' => m' = m ∧ r = some (.int (if lo < (if x < hi then x else hi) then (if x < hi then x else hi) else lo))) := by
  refine v_X11_clamp ⟨fun c1 => ⟨fun c2 => ⟨rfl, ?_⟩, fun c2 => ⟨rfl, ?_⟩⟩, fun c1 => ⟨rfl, ?_⟩⟩
  · have := z_le c1
    have := z_le c2
    refine congrArg (fun z => some (Value.int z)) ?_
    by_cases q : x < hi
    · rw [if_pos q]
      by_cases q2 : lo < x
      · rw [if_pos q2]
      · rw [if_neg q2]; have := z_nlt q2; exact (fa_eq _ _).mpr (by omega)
    · have := z_nlt q
      rw [if_neg q]
      by_cases q2 : lo < hi
      · rw [if_pos q2]; exact (fa_eq _ _).mpr (by omega)
      · rw [if_neg q2]; have := z_nlt q2; exact (fa_eq _ _).mpr (by omega)
  · have := z_le c1
    have := z_nle c2
    refine congrArg (fun z => some (Value.int z)) ?_
    rw [if_neg (c := x < hi) (fun z => by have := z_lt z; omega)]
    by_cases q2 : lo < hi
    · rw [if_pos q2]
    · rw [if_neg q2]; have := z_nlt q2; exact (fa_eq _ _).mpr (by omega)
  · have := z_nle c1
    refine congrArg (fun z => some (Value.int z)) ?_
    rw [if_pos (c := x < hi) ((fa_lt _ _).mpr (by omega)), if_neg (c := lo < x) (fun z => by have := z_lt z; omega)]
theorem drop_c : ∀ (cl : List Int32) (j : Nat), j < cl.length → cl.drop j = cAt cl j :: cl.drop (j + 1) := by
  intro cl
  induction cl with
  | nil => intro j h; exact absurd h (Nat.not_lt_zero j)
  | cons x cl ih =>
    intro j h
    cases j with
    | zero => rfl
    | succ j => exact ih j (by rw [List.length_cons] at h; omega)
theorem ev_suf {lt : Int32 → Int32} : ∀ (cl : List Int32) (σ τ : List Int32), evR lt cl σ = some τ → ∀ j, ∃ υ, evR lt (cl.drop j) σ = some υ := by
  intro cl
  induction cl with
  | nil => intro σ τ h j; exact ⟨τ, by rw [List.drop_nil]; exact h⟩
  | cons x cl ih =>
    intro σ τ h j
    cases j with
    | zero => exact ⟨τ, h⟩
    | succ j =>
      cases e : evR lt cl σ with
      | none =>
        have h3 : evR lt (x :: cl) σ = none := by
          show (match evR lt cl σ with | none => none | some τ => evS lt x τ) = _
          rw [e]
        rw [h3] at h
        cases h
      | some υ => exact ih σ υ e j
end COR
