/-! A SEARCH: the states in the order in which they come -/
/-- how many, their skills, how many games they take -/
abbrev SSt : Type := Nat × (Nat → Nat → Int32) × (Nat → Nat)
def nS (S : SSt) : Nat := S.1
def kS (S : SSt) : Nat → Nat → Int32 := S.2.1
def dS (S : SSt) : Nat → Nat := S.2.2
abbrev PSt : Type := (Nat → Int32) × (Nat → Int32) × (Nat → Int32) × Int32
def eqB (f f' : Nat → Int32) : Bool := (List.range 32).all (fun k => decide (f k = f' k))
def fndB (S : SSt) (f : Nat → Int32) : Bool := (List.range (nS S)).any (fun i => eqB (kS S i) f)
def InS (S : SSt) (f : Nat → Int32) : Prop := ∃ i, i < nS S ∧ EQ32 (kS S i) f
def adS (f : Nat → Int32) (q : Nat) (S : SSt) : SSt := (nS S + 1, (fun i => if i = nS S then f else kS S i), fun i => if i = nS S then q else dS S i)
/-- none: there would be more than 3000 -/
def insS (f : Nat → Int32) (q : Nat) (S : SSt) : Option SSt := if fndB S f = true then some S else if nS S < 3000 then some (adS f q S) else none
/-- a game of two tried in state t -/
def xS (v : EV) (p : PSt) (t w a b : Nat) (S : SSt) : Option SSt := insS (qtG v a b (nI w) (kS S t, p)).1 (dS S t + 1) S
def xB (v : EV) (p : PSt) (t w a : Nat) : Nat → Nat → SSt → Option SSt
  | 0, _, S => some S
  | k + 1, b, S => (xS v p t w a b S).bind (xB v p t w a k (b + 1))
def xA (v : EV) (p : PSt) (t w n : Nat) : Nat → Nat → SSt → Option SSt
  | 0, _, S => some S
  | k + 1, a, S => (xB v p t w a (n - (a + 1)) (a + 1) S).bind (xA v p t w n k (a + 1))
def xW (v : EV) (p : PSt) (t n : Nat) : Nat → Nat → SSt → Option SSt
  | 0, _, S => some S
  | k + 1, w, S => (xA v p t w n n 0 S).bind (xW v p t n k (w + 1))
/-- the class's: done at the first state of which no game is tried -/
def xL (v : EV) (p : PSt) (wi : Nat) : Nat → Nat → SSt → Option SSt
  | 0, _, S => some S
  | k + 1, t, S => if nS S ≤ t then some S else if dS S t < wi then (xW v p t (nE v) 3 0 S).bind (xL v p wi k (t + 1)) else some S
/-- the model's: such states are passed over -/
def xM (v : EV) (p : PSt) (wi : Nat) : Nat → Nat → SSt → Option SSt
  | 0, _, S => some S
  | k + 1, t, S => if nS S ≤ t then some S else if dS S t = wi then xM v p wi k (t + 1) S else (xW v p t (nE v) 3 0 S).bind (xM v p wi k (t + 1))
def s0S (f : Nat → Int32) : SSt := (1, fun _ => f, fun _ => 0)
def srG (v : EV) (g : GS) (wi : Nat) : Option SSt := xL v g.2 wi 3000 0 (s0S g.1)
section SSX
variable {v : EV} {p : PSt} {t w a b q wi n : Nat} {S S' : SSt} {f f' : Nat → Int32}
theorem EQ32.symm (h : EQ32 f f') : EQ32 f' f := fun k hk => (h k hk).symm
theorem EQ32.trans {f'' : Nat → Int32} (h : EQ32 f f') (h' : EQ32 f' f'') : EQ32 f f'' := fun k hk => (h k hk).trans (h' k hk)
theorem eqB_iff : eqB f f' = true ↔ EQ32 f f' := by
  unfold eqB
  rw [List.all_eq_true]
  constructor
  · intro h k hk
    exact of_decide_eq_true (h k (List.mem_range.mpr hk))
  · intro h k hk
    exact decide_eq_true (h k (List.mem_range.mp hk))
theorem fndB_iff : fndB S f = true ↔ InS S f := by
  unfold fndB
  rw [List.any_eq_true]
  constructor
  · rintro ⟨i, hi, h⟩
    exact ⟨i, List.mem_range.mp hi, eqB_iff.mp h⟩
  · rintro ⟨i, hi, h⟩
    exact ⟨i, List.mem_range.mpr hi, eqB_iff.mpr h⟩
theorem InS.eq (h : InS S f) (e : EQ32 f f') : InS S f' := by
  obtain ⟨i, hi, h⟩ := h
  exact ⟨i, hi, h.trans e⟩
theorem insS_in (h : InS S f) : insS f q S = some S := if_pos (fndB_iff.mpr h)
theorem insS_new (h : ¬ InS S f) (hn : nS S < 3000) : insS f q S = some (adS f q S) := by
  unfold insS
  rw [if_neg (fun z => h (fndB_iff.mp z)), if_pos hn]
theorem insS_no (h : ¬ InS S f) (hn : ¬ nS S < 3000) : insS f q S = none := by
  unfold insS
  rw [if_neg (fun z => h (fndB_iff.mp z)), if_neg hn]
theorem adS_n : nS (adS f q S) = nS S + 1 := rfl
theorem adS_k {i : Nat} (hi : i < nS S) : kS (adS f q S) i = kS S i := if_neg (by omega)
theorem adS_d {i : Nat} (hi : i < nS S) : dS (adS f q S) i = dS S i := if_neg (by omega)
theorem adS_kn : kS (adS f q S) (nS S) = f := if_pos rfl
theorem adS_dn : dS (adS f q S) (nS S) = q := if_pos rfl
/-- what was there stays -/
def LeS (S S' : SSt) : Prop := nS S ≤ nS S' ∧ ∀ i, i < nS S → kS S' i = kS S i ∧ dS S' i = dS S i
theorem LeS.rf : LeS S S := ⟨Nat.le_refl _, fun _ _ => ⟨rfl, rfl⟩⟩
theorem LeS.tr {S'' : SSt} (h : LeS S S') (h' : LeS S' S'') : LeS S S'' := ⟨Nat.le_trans h.1 h'.1, fun i hi => ⟨(h'.2 i (Nat.lt_of_lt_of_le hi h.1)).1.trans (h.2 i hi).1, (h'.2 i (Nat.lt_of_lt_of_le hi h.1)).2.trans (h.2 i hi).2⟩⟩
theorem LeS.ad : LeS S (adS f q S) := ⟨Nat.le_succ _, fun _ hi => ⟨adS_k hi, adS_d hi⟩⟩
theorem LeS.i (h : LeS S S') (hi : InS S f) : InS S' f := by
  obtain ⟨i, hi, e⟩ := hi
  exact ⟨i, Nat.lt_of_lt_of_le hi h.1, by rw [(h.2 i hi).1]; exact e⟩
theorem insS_of (h : insS f q S = some S') : (S' = S ∧ InS S f) ∨ (S' = adS f q S ∧ ¬ InS S f ∧ nS S < 3000) := by
  by_cases c : InS S f
  · rw [insS_in c] at h
    exact Or.inl ⟨(Option.some.inj h).symm, c⟩
  · by_cases c2 : nS S < 3000
    · rw [insS_new c c2] at h
      exact Or.inr ⟨(Option.some.inj h).symm, c, c2⟩
    · rw [insS_no c c2] at h
      cases h
theorem insS_le (h : insS f q S = some S') : LeS S S' := by
  rcases insS_of h with ⟨rfl, -⟩ | ⟨rfl, -⟩
  · exact LeS.rf
  · exact LeS.ad
theorem insS_has (h : insS f q S = some S') : InS S' f := by
  rcases insS_of h with ⟨rfl, c⟩ | ⟨rfl, -⟩
  · exact c
  · exact ⟨nS S, Nat.lt_succ_self _, by rw [adS_kn]; exact fun _ _ => rfl⟩
/-- what each game keeps, all of them keep -/
theorem xB_ind {P : SSt → Prop} (hs : ∀ b S S', xS v p t w a b S = some S' → P S → P S') : ∀ k b S S', xB v p t w a k b S = some S' → P S → P S' := by
  intro k
  induction k with
  | zero => intro b S S' h hP; cases h; exact hP
  | succ k ih =>
    intro b S S' h hP
    obtain ⟨S1, h1, h2⟩ := Option.bind_eq_some_iff.mp (show (xS v p t w a b S).bind (xB v p t w a k (b + 1)) = some S' from h)
    exact ih _ _ _ h2 (hs _ _ _ h1 hP)
theorem xA_ind {P : SSt → Prop} (hs : ∀ a b S S', xS v p t w a b S = some S' → P S → P S') : ∀ k a S S', xA v p t w n k a S = some S' → P S → P S' := by
  intro k
  induction k with
  | zero => intro b S S' h hP; cases h; exact hP
  | succ k ih =>
    intro a S S' h hP
    obtain ⟨S1, h1, h2⟩ := Option.bind_eq_some_iff.mp (show (xB v p t w a (n - (a + 1)) (a + 1) S).bind (xA v p t w n k (a + 1)) = some S' from h)
    exact ih _ _ _ h2 (xB_ind (hs a) _ _ _ _ h1 hP)
theorem xW_ind {P : SSt → Prop} (hs : ∀ w a b S S', xS v p t w a b S = some S' → P S → P S') : ∀ k w S S', xW v p t n k w S = some S' → P S → P S' := by
  intro k
  induction k with
  | zero => intro b S S' h hP; cases h; exact hP
  | succ k ih =>
    intro w S S' h hP
    obtain ⟨S1, h1, h2⟩ := Option.bind_eq_some_iff.mp (show (xA v p t w n n 0 S).bind (xW v p t n k (w + 1)) = some S' from h)
    exact ih _ _ _ h2 (xA_ind (hs w) _ _ _ _ h1 hP)
/-- the nearest first -/
def DI (wi t : Nat) (S : SSt) : Prop := (∀ i j, i ≤ j → j < nS S → dS S i ≤ dS S j) ∧ (∀ j, j < nS S → dS S j ≤ wi) ∧ (t < nS S → ∀ j, j < nS S → dS S j ≤ dS S t + 1)
theorem DI.st (h : DI wi t S) (ht : t < nS S) (hw : dS S t < wi) (e : xS v p t w a b S = some S') : DI wi t S' ∧ t < nS S' ∧ dS S' t < wi := by
  obtain ⟨h1, h2, h3⟩ := h
  rcases insS_of e with ⟨rfl, -⟩ | ⟨rfl, -⟩
  · exact ⟨⟨h1, h2, h3⟩, ht, hw⟩
  · rw [adS_n, adS_d ht]
    refine ⟨⟨fun i j hij hj => ?_, fun j hj => ?_, fun _ j hj => ?_⟩, by omega, hw⟩
    · rw [adS_n] at hj
      by_cases c : j = nS S
      · subst c
        rw [adS_dn]
        by_cases c2 : i = nS S
        · subst c2
          rw [adS_dn]
          exact Nat.le_refl _
        · rw [adS_d (by omega)]
          exact h3 ht i (by omega)
      · rw [adS_d (show j < nS S by omega), adS_d (show i < nS S by omega)]
        exact h1 i j hij (by omega)
    · rw [adS_n] at hj
      by_cases c : j = nS S
      · subst c
        rw [adS_dn]
        exact hw
      · rw [adS_d (show j < nS S by omega)]
        exact h2 j (by omega)
    · rw [adS_n] at hj
      rw [adS_d ht]
      by_cases c : j = nS S
      · subst c
        rw [adS_dn]
        exact Nat.le_refl _
      · rw [adS_d (show j < nS S by omega)]
        exact h3 ht j (by omega)
theorem xM_end : ∀ k t, (∀ j, t ≤ j → j < nS S → dS S j = wi) → xM v p wi k t S = some S := by
  intro k
  induction k with
  | zero => intro t _; rfl
  | succ k ih =>
    intro t h
    show (if nS S ≤ t then some S else if dS S t = wi then xM v p wi k (t + 1) S else (xW v p t (nE v) 3 0 S).bind (xM v p wi k (t + 1))) = some S
    by_cases c : nS S ≤ t
    · rw [if_pos c]
    · rw [if_neg c, if_pos (h t (Nat.le_refl _) (by omega))]
      exact ih (t + 1) (fun j h1 h2 => h j (by omega) h2)
theorem xM_L : ∀ k t S, DI wi t S → xM v p wi k t S = xL v p wi k t S := by
  intro k
  induction k with
  | zero => intro t S _; rfl
  | succ k ih =>
    intro t S h
    show (if nS S ≤ t then some S else if dS S t = wi then xM v p wi k (t + 1) S else (xW v p t (nE v) 3 0 S).bind (xM v p wi k (t + 1))) = (if nS S ≤ t then some S else if dS S t < wi then (xW v p t (nE v) 3 0 S).bind (xL v p wi k (t + 1)) else some S)
    by_cases c : nS S ≤ t
    · rw [if_pos c, if_pos c]
    · have ht : t < nS S := by omega
      have h2 := h.2.1 t ht
      rw [if_neg c, if_neg c]
      by_cases c2 : dS S t = wi
      · rw [if_pos c2, if_neg (by omega)]
        refine xM_end k (t + 1) (fun j h3 h4 => ?_)
        have a1 := h.1 t j (by omega) h4
        have a2 := h.2.1 j h4
        omega
      · have hw : dS S t < wi := by omega
        rw [if_neg c2, if_pos hw]
        cases e : xW v p t (nE v) 3 0 S with
        | none => rfl
        | some S1 =>
          have H := xW_ind (P := fun S => DI wi t S ∧ t < nS S ∧ dS S t < wi) (fun w a b S S' e q => q.1.st q.2.1 q.2.2 e) 3 0 S S1 e ⟨h, ht, hw⟩
          refine ih (t + 1) S1 ⟨H.1.1, H.1.2.1, fun h5 j hj => ?_⟩
          have a1 := H.1.2.2 H.2.1 j hj
          have a2 := H.1.1 t (t + 1) (by omega) h5
          omega
theorem srG_M {g : GS} : srG v g wi = xM v g.2 wi 3000 0 (s0S g.1) := (xM_L 3000 0 (s0S g.1) ⟨fun _ _ _ _ => Nat.le_refl _, fun _ _ => Nat.zero_le _, fun _ _ _ => Nat.zero_le _⟩).symm
/-- states are of sides that there are -/
def ZI (v : EV) (S : SSt) : Prop := ∀ i, i < nS S → ∀ p : PSt, ZB v (kS S i, p)
theorem ZI.ins (h : ZI v S) (hf : ∀ p : PSt, ZB v (f, p)) (e : insS f q S = some S') : ZI v S' := by
  rcases insS_of e with ⟨rfl, -⟩ | ⟨rfl, -⟩
  · exact h
  · intro i hi p
    rw [adS_n] at hi
    by_cases c : i = nS S
    · subst c
      rw [adS_kn]
      exact hf p
    · rw [adS_k (by omega)]
      exact h i (by omega) p
theorem ZB.qt {th : Int32} {g : GS} (h : ZB v g) (ha : a < nE v) (hb : b < nE v) (h4 : aE v ≤ 4) : ZB v (qtG v a b th g) := h.stl ha hb h4
theorem ZI.st (h : ZI v S) (ht : t < nS S) (ha : a < nE v) (hb : b < nE v) (h4 : aE v ≤ 4) (e : xS v p t w a b S = some S') : ZI v S' :=
  h.ins (fun p' => ((h t ht p).qt ha hb h4).of rfl) e
theorem ZI.r7 (h : ZI v S) {i : Nat} (hi : i < nS S) : SR7 (kS S i) := (h i hi (fun _ => 0, fun _ => 0, fun _ => 0, 0)).1.2
/-- honest games of the state have been tried: all pairs ahead of this one -/
def HD (v : EV) (p : PSt) (t a b : Nat) (S : SSt) : Prop := ∀ a' b', a' < b' → b' < nE v → (a' < a ∨ (a' = a ∧ b' < b)) → InS S (qtG v a' b' (nI 0) (kS S t, p)).1
def HW (v : EV) (p : PSt) (t w a b : Nat) (S : SSt) : Prop := (w = 0 → HD v p t a b S) ∧ (¬ w = 0 → HD v p t (nE v) 0 S)
theorem HD.le (h : HD v p t a b S) (ht : t < nS S) (l : LeS S S') : HD v p t a b S' := fun a' b' h1 h2 h3 => by
  rw [(l.2 t ht).1]
  exact l.i (h a' b' h1 h2 h3)
theorem HW.st (h : HW v p t w a b S) (ht : t < nS S) (e : xS v p t w a b S = some S') : HW v p t w a (b + 1) S' := by
  have l := insS_le e
  refine ⟨fun hw => fun a' b' h1 h2 h3 => ?_, fun hw => (h.2 hw).le ht l⟩
  by_cases c : a' = a ∧ b' = b
  · obtain ⟨rfl, rfl⟩ := c
    rw [(l.2 t ht).1]
    subst hw
    exact insS_has e
  · exact ((h.1 hw).le ht l) a' b' h1 h2 (by omega)
theorem HW.na (h : HW v p t w a (nE v) S) : HW v p t w (a + 1) (a + 1 + 1) S := ⟨fun hw a' b' h1 h2 h3 => h.1 hw a' b' h1 h2 (by omega), h.2⟩
theorem HW.nw (h : HW v p t w (nE v) b S) : HW v p t (w + 1) 0 (0 + 1) S := by
  refine ⟨fun z => absurd z (by omega), fun _ => ?_⟩
  by_cases hw : w = 0
  · exact fun a' b' h1 h2 h3 => h.1 hw a' b' h1 h2 (Or.inl (by omega))
  · exact h.2 hw
/-- games that lead where another one led -/
theorem xS_same (ht : t < nS S) (h : EQ32 (qtG v a b (nI w) (kS S t, p)).1 (kS S t)) : xS v p t w a b S = some S := insS_in ⟨t, ht, h.symm⟩
theorem xS_honest (h : HW v p t w a b S) (hw : ¬ w = 0) (hab : a < b) (hb : b < nE v) (e : wnG v (kS S t, p) a b (nI w) = wnG v (kS S t, p) a b (nI 0)) : xS v p t w a b S = some S := by
  have h1 := h.2 hw a b hab hb (Or.inl (by omega))
  refine insS_in ?_
  unfold qtG
  rw [e]
  exact h1
theorem xL_le : ∀ k t S S', xL v p wi k t S = some S' → LeS S S' := by
  intro k
  induction k with
  | zero => intro t S S' h; cases h; exact LeS.rf
  | succ k ih =>
    intro t S S' h
    have h' : (if nS S ≤ t then some S else if dS S t < wi then (xW v p t (nE v) 3 0 S).bind (xL v p wi k (t + 1)) else some S) = some S' := h
    by_cases c : nS S ≤ t
    · rw [if_pos c] at h'; cases h'; exact LeS.rf
    · rw [if_neg c] at h'
      by_cases c2 : dS S t < wi
      · rw [if_pos c2] at h'
        obtain ⟨S1, h1, h2⟩ := Option.bind_eq_some_iff.mp h'
        exact (xW_ind (P := LeS S) (fun w a b S1 S2 e q => q.tr (insS_le e)) 3 0 S S1 h1 LeS.rf).tr (ih _ _ _ h2)
      · rw [if_neg c2] at h'; cases h'; exact LeS.rf
theorem srG_pos {g : GS} (h : srG v g wi = some S) : 0 < nS S := Nat.lt_of_lt_of_le Nat.zero_lt_one (xL_le _ _ _ _ h).1
end SSX
