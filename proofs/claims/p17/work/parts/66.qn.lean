section RCW
variable {ad : Nat → Nat} {d b0 : Nat} {m m0 : Wm}
/-- the rule in force P, the other one Q -/
def RuR (m : Wm) (P Q : Nat) : Prop := m.2.2 3 1 = some P ∧ m.2.2 3 2 = some Q ∧ ((P = 5 ∧ Q = 10) ∨ (P = 10 ∧ Q = 5))
/-- what the class's rule() answers by O, and where it leaves the code -/
def ruC (m : Wm) (P Q t : Nat) (O : Nat ⊕ XS) (r : Option Value) (m' : Wm) : Prop := WT m' ∧ Fx (RS [0, 1]) m m' ∧ m'.1 1 1 = 0 ∧
  ((t = 0 ∧ r = some (.int 0) ∧ RuR m' Q P ∧ CodeX Q [] m') ∨
   (t ≠ 0 ∧ (∀ q, O = .inl q → r = some (.int (-1 - nI q)) ∧ RuR m' P Q ∧ ∀ b k, P ≤ b → b ≤ P + 4 → m'.1 b k = m.1 b k) ∧
     ∀ S, O = .inr S → r = some (.int 0) ∧ RuR m' Q P ∧ CodeX Q (relL 1 S.2.2 S.2.1).1 m' ∧ (relL 1 S.2.2 S.2.1).1 ≠ []))
theorem uR_at {a k : Nat} {o : Option Nat} : (uR m a k o).2.2 a k = o := if_pos ⟨rfl, rfl⟩
theorem uR_an {a k b j : Nat} {o : Option Nat} (h : ¬ (b = a ∧ j = k)) : (uR m a k o).2.2 b j = m.2.2 b j := if_neg h
theorem e_ruleC {t P Q : Nat} (wt : WT m) (hR : RuR m P Q) (ht : m.1 1 1 = nI t) (ht80 : t ≤ 80) (hch : ∀ k, k < t → (m.1 2 k).toInt ≤ 255) : Ct ad μX11_rule (d + 5) [.ref (ad 0)] m (ruC m P Q t (MO xst xok (m.1 2) (decide (40 < t)) (minT t 40) 0 ((true, 0, [false]), [], []))) := by
  generalize hO : MO xst xok (m.1 2) (decide (40 < t)) (minT t 40) 0 ((true, 0, [false]), [], []) = O
  obtain ⟨e1, e2, hPQ⟩ := hR
  have q1 : P = 5 ∨ P = 10 := by omega
  have q2 : Q = 5 ∨ Q = 10 := by omega
  have n3 : ∀ k, ¬ RB Q 3 k := fun k => by unfold RB; omega
  have hQP : (Q = 5 ∧ P = 10) ∨ (Q = 10 ∧ P = 5) := by omega
  have nP : ∀ b k, P ≤ b → b ≤ P + 4 → ¬ RB Q b k := fun b k h1 h2 => by unfold RB; omega
  have nQ : ∀ j k, ¬ (Q + j = 1 ∧ k = (1 : Nat)) := fun j k => by omega
  have nb : ∀ b k, P ≤ b → ¬ (b = 1 ∧ k = (1 : Nat)) := fun b k h1 => by omega
  have FIN : ∀ (v3 : Int32) (m2 : Wm), WT m2 → Fx (RB Q) m m2 → ((v3 = -1 ∧ ((t = 0 ∧ CodeX Q [] m2) ∨ (t ≠ 0 ∧ ∃ S, O = .inr S ∧ CodeX Q (relL 1 S.2.2 S.2.1).1 m2 ∧ (relL 1 S.2.2 S.2.1).1 ≠ []))) ∨ (t ≠ 0 ∧ ∃ q, O = .inl q ∧ q ≤ 40 ∧ v3 = nI q)) →
      ∃ v : Int32, some (Value.int v3) = some (.int v) ∧ ((v = (-1 : Int32) → (∃ r4, (uI m2 1 1 (0 : Int32)).2.2 3 1 = some r4 ∧ Ru r4 ∧ (∃ r5, (uI m2 1 1 (0 : Int32)).2.2 3 2 = some r5 ∧ Ru r5 ∧ ruC m P Q t O (some (.int (0 : Int32))) (uR (uR (uI m2 1 1 (0 : Int32)) 3 1 (some r5)) 3 2 (some r4))))) ∧ (¬ v = (-1 : Int32) → ruC m P Q t O (some (.int ((-1 : Int32) - v))) (uI m2 1 1 (0 : Int32)))) := by
    intro v3 m2 w2 f2 h
    have w10 : WT (uI m2 1 1 (0 : Int32)) := w2.t rfl (by decide) (by decide)
    have f2' : Fx (RS [0, 1]) m m2 := (Fx.rf (S := RS [0, 1])).tr f2 (fun a k h => RS_sub (l1 := [1]) rfl a k (RB_1 q2 a k h))
    have f10 : Fx (RS [0, 1]) m (uI m2 1 1 (0 : Int32)) := f2'.i rfl
    have r1 : m2.2.2 3 1 = some P := ((f2 3 1 (n3 1)).2.2).trans e1
    have r2 : m2.2.2 3 2 = some Q := ((f2 3 2 (n3 2)).2.2).trans e2
    refine ⟨v3, rfl, fun hv => ⟨P, r1, Ru_of q1, Q, r2, Ru_of q2, (w10.rR (by decide) q2).rR (by decide) q1, (f10.r rfl).r rfl, rfl, ?_⟩, fun hv => ⟨w10, f10, rfl, ?_⟩⟩
    · have hR2 : RuR (uR (uR (uI m2 1 1 (0 : Int32)) 3 1 (some Q)) 3 2 (some P)) Q P := ⟨(uR_an (fun q => absurd q.2 (by decide))).trans uR_at, uR_at, hQP⟩
      rcases h with ⟨-, ⟨h0, hX⟩ | ⟨h0, S, hS, hX, hn⟩⟩ | ⟨h0, q, hq, q40, e⟩
      · exact Or.inl ⟨h0, rfl, hR2, (if_neg (nQ 0 4)).trans hX.1, hX.2.1.k (fun k => if_neg (nQ 1 k)), hX.2.2⟩
      · refine Or.inr ⟨h0, fun q e => (by rw [hS] at e; cases e), fun S' e => ?_⟩
        rw [hS] at e
        cases e
        exact ⟨rfl, hR2, ⟨(if_neg (nQ 0 4)).trans hX.1, hX.2.1.k (fun k => if_neg (nQ 1 k)), hX.2.2⟩, hn⟩
      · exact absurd (hv.symm.trans e) (m1_ne q (Nat.lt_of_le_of_lt q40 (by decide)))
    · rcases h with ⟨h0, -⟩ | ⟨h0, q, hq, q40, e⟩
      · exact absurd h0 hv
      · refine Or.inr ⟨h0, fun q' e' => ?_, fun S e' => (by rw [hq] at e'; cases e')⟩
        rw [hq] at e'
        cases e'
        exact ⟨by rw [e], ⟨r1, r2, hPQ⟩, fun b k h1 h2 => (if_neg (nb b k h1)).trans (f2.at (nP b k h1 h2))⟩
  refine v_X11_rule (d := d + 4) ⟨Q, e2, Ru_of q2, ?_⟩
  by_cases ht0 : t = 0
  · subst ht0
    have e00 : (0 : Int32).toNatClampNeg = 0 := rfl
    have eb : vp_nar .boolean (0 : Int32) = 0 := rfl
    refine v_X5_compile (d := d + 3) (Ru_of q2) ⟨fun c => absurd ?_ c, fun _ => FIN (-1) _ ?_ ?_ (Or.inl ⟨rfl, Or.inl ⟨rfl, ?_, fun i hi => absurd hi (Nat.not_lt_zero i), by decide⟩⟩)⟩
    · have h : ∀ k, (uI (uI (uI (uI (uI (uI m Q 4 (0 : Int32)) Q 5 (0 : Int32)) Q 6 (0 : Int32)) Q 7 (0 : Int32)) Q 8 (1 : Int32)) (Q + 4) (0 : Int32).toNatClampNeg (vp_nar .boolean (0 : Int32))).1 1 k = m.1 1 k := fun k => (u_ne (by omega)).trans ((u_ne (by omega)).trans ((u_ne (by omega)).trans ((u_ne (by omega)).trans ((u_ne (by omega)).trans (u_ne (by omega))))))
      exact (h 1).trans ht
    · exact wRf q2 (wR_n q2 (wR_n q2 (wR_6 q2 (wR_5 q2 (wR_4 q2 wt (by decide) (by decide)) (by decide) (by decide)) (by decide) (by decide)) (Or.inl rfl)) (Or.inr rfl))
    · exact fRa q2 (fR q2 (fR q2 (fR q2 (fR q2 (fR q2 Fx.rf (by omega)) (by omega)) (by omega)) (by omega)) (by omega)) (Or.inr (Or.inr rfl))
    · exact (u_ne (by omega)).trans ((u_ne (by omega)).trans ((u_ne (by omega)).trans ((u_ne (by omega)).trans ((u_ne (by omega)).trans u_eq))))
  · refine (e_comp5 (d := d) q2 wt ht ht80 ht0 hch).to ?_
    rintro r m2 ⟨w2, f2, hq, hS⟩
    rw [hO] at hq hS
    cases O with
    | inl q =>
      obtain ⟨rfl, q40⟩ := hq q rfl
      exact FIN _ m2 w2 f2 (Or.inr ⟨ht0, q, rfl, q40, rfl⟩)
    | inr S =>
      obtain ⟨rfl, hX, hl, hn⟩ := hS S rfl
      exact FIN _ m2 w2 f2 (Or.inl ⟨rfl, Or.inr ⟨ht0, S, rfl, ⟨hX.1, hX.2.1, hl⟩, hn⟩⟩)
end RCW
/-! a rule's value leans on the signs that are read alone -/
section TCH
variable {tx tb : Nat → Int32} {e : Nat} {lt : Int32 → Int32}
theorem hr_ch (h : ∀ k, k < e → tx k = tb k) : hrF tx e = hrF tb e := funext fun p => by
  unfold hrF
  by_cases hp : p < e
  · rw [if_pos hp, if_pos hp, h p hp]
  · rw [if_neg hp, if_neg hp]
theorem pass_ch (h : hrF tx e = hrF tb e) : passF tx e = passF tb e := funext fun c => funext fun s => by unfold passF; rw [h]
theorem need_ch (h : hrF tx e = hrF tb e) : needF tx e = needF tb e := funext fun c => funext fun s => by unfold needF; rw [pass_ch h]
theorem num_ch (h : hrF tx e = hrF tb e) : ∀ k v p, numF tx e k v p = numF tb e k v p := by
  intro k
  induction k with
  | zero => intro v p; rfl
  | succ k ih =>
    intro v p
    show (if 48 ≤ hrF tx e p ∧ hrF tx e p ≤ 57 then numF tx e k (10 * v + hrF tx e p - 48) (p + 1) else (v, p)) = (if 48 ≤ hrF tb e p ∧ hrF tb e p ≤ 57 then numF tb e k (10 * v + hrF tb e p - 48) (p + 1) else (v, p))
    rw [h, ih]
theorem loop_ch {c1 c2 : Int32} {op : Bool → Int32 → Int32 → Int32} {g : Sp → Int32 × Sp} (h : hrF tx e = hrF tb e) : ∀ k acc s, loopF tx e c1 c2 op g k acc s = loopF tb e c1 c2 op g k acc s := by
  intro k
  induction k with
  | zero => intro acc s; rfl
  | succ k ih =>
    intro acc s
    show (if s.2 = -1 ∧ (hrF tx e s.1 = c1 ∨ hrF tx e s.1 = c2) then loopF tx e c1 c2 op g k (op (decide (hrF tx e s.1 = c1)) acc (g (s.1 + 1, s.2)).1) (g (s.1 + 1, s.2)).2 else (acc, s)) = (if s.2 = -1 ∧ (hrF tb e s.1 = c1 ∨ hrF tb e s.1 = c2) then loopF tb e c1 c2 op g k (op (decide (hrF tb e s.1 = c1)) acc (g (s.1 + 1, s.2)).1) (g (s.1 + 1, s.2)).2 else (acc, s))
    rw [h, ih]
theorem prF_ch (h0 : ∀ k, k < e → tx k = tb k) : ∀ n kd dp s, prF tx e lt n kd dp s = prF tb e lt n kd dp s := by
  have h := hr_ch h0
  intro n
  induction n with
  | zero => intro kd dp s; rfl
  | succ n ih =>
    have E : ∀ kd dp, prF tx e lt n kd dp = prF tb e lt n kd dp := fun kd dp => funext (ih kd dp)
    intro kd dp s
    match kd with
    | 0 =>
      show thgF tx e lt (prF tx e lt n 0 dp) (prF tx e lt n 3 (dp + 1)) dp s = thgF tb e lt (prF tb e lt n 0 dp) (prF tb e lt n 3 (dp + 1)) dp s
      rw [E, E]
      unfold thgF
      rw [pass_ch h, need_ch h, num_ch h, h]
    | 1 =>
      show loopF tx e 42 47 opM (prF tx e lt n 0 dp) 81 (prF tx e lt n 0 dp s).1 (prF tx e lt n 0 dp s).2 = loopF tb e 42 47 opM (prF tb e lt n 0 dp) 81 (prF tb e lt n 0 dp s).1 (prF tb e lt n 0 dp s).2
      rw [E, loop_ch h]
    | 2 =>
      show loopF tx e 43 45 opA (prF tx e lt n 1 dp) 81 (prF tx e lt n 1 dp s).1 (prF tx e lt n 1 dp s).2 = loopF tb e 43 45 opA (prF tb e lt n 1 dp) 81 (prF tb e lt n 1 dp s).1 (prF tb e lt n 1 dp s).2
      rw [E, loop_ch h]
    | k + 3 =>
      show cmpF tx e (prF tx e lt n 2 dp) (prF tx e lt n 2 dp s) = cmpF tb e (prF tb e lt n 2 dp) (prF tb e lt n 2 dp s)
      rw [E]
      unfold cmpF
      rw [pass_ch h]
end TCH
