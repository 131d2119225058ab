/-! THE RULE, BETWEEN TWO CALLS -/
section RUX
variable {m m' : Wm} {S A B : List Nat}
theorem RuK.fx (h : RuK m) (f : Fx (RS S) m m') (e1 : S.elem 1 = false) (e48 : S.elem 48 = false) : RuK m' := by
  obtain ⟨P, Q, hR, cl, z, hX, h27, hz, hv⟩ := h
  have hP : P = 5 ∨ P = 10 := by have := hR.2.2; omega
  have r : ∀ j k, j = 0 ∨ j = 1 → m'.1 (P + j) k = m.1 (P + j) k := fun j k hj => f.at (nRS e1 (rg_1 hP hj))
  have g200 : m'.1 200 = m.1 200 := funext fun k => f.at (nRS (ρ := 48) e48 rfl)
  refine ⟨P, Q, ⟨((f 3 1 (nRS e1 rfl)).2.2).trans hR.1, ((f 3 2 (nRS e1 rfl)).2.2).trans hR.2.1, hR.2.2⟩, cl, z, ⟨(r 0 4 (Or.inl rfl)).trans hX.1, hX.2.1.k (fun k => r 1 k (Or.inr rfl)), hX.2.2⟩, (f.at (nRS (ρ := 48) e48 rfl)).trans h27, hz, ?_⟩
  rw [g200]
  exact hv
theorem RuK.tr (a : (A.all fun x => !(([1, 48] : List Nat).elem x)) = true) (b : (B.all fun x => !(([1, 48] : List Nat).elem x)) = true) : TR A B RuK RuK := fun f1 f2 k => (k.fx f1 (all_ne a (ρ := 1) rfl) (all_ne a (ρ := 48) rfl)).fx f2 (all_ne b (ρ := 1) rfl) (all_ne b (ρ := 48) rfl)
theorem RuK.trn (a : (A.all fun x => !(([1, 48] : List Nat).elem x)) = true) (b : (B.all fun x => !(([1, 48] : List Nat).elem x)) = true) : TRN A B RuK RuK := fun f1 f2 _ k => (k.fx f1 (all_ne a (ρ := 1) rfl) (all_ne a (ρ := 48) rfl)).fx f2 (all_ne b (ρ := 1) rfl) (all_ne b (ρ := 48) rfl)
theorem RuK.kd : KD RuK RuK := by
  intro S1 S2 m m1 m2 f1 f2 k e1 e2
  exact (k.fx f1 (all_ne (L := KL) e1 rfl) (all_ne (L := KL) e1 rfl)).fx f2 (all_ne (L := KL) e2 rfl) (all_ne (L := KL) e2 rfl)
theorem RuK.lg (c : Nat) : LGH (KX RuK c) RuK := by
  intro m m1 m2 n st dg ln sd ar fr wp il sk I en n8 w1 w2 f1 f2 hF V L E e33
  exact (I.2.2.1.fx f1 rfl rfl).fx f2 rfl rfl
theorem KB.rl (c : Nat) {m1 m2 : Wm} (k : KB c m) (f1 : Fx (RS [0, 1]) m m1) (f2 : Fx (RS [20, 21, 22, 48, 28]) m1 m2) : KB (c + 1) m2 := by
  obtain ⟨k1, k2, k3⟩ := k
  exact ⟨(k1.fx f1 rfl rfl rfl rfl rfl).fx f2 rfl rfl rfl rfl rfl, (k2.fx f1 rfl rfl).fx f2 rfl rfl, ((k3.fx f1 rfl rfl rfl).fx f2 rfl rfl rfl).up⟩
theorem RuK.rl (c : Nat) : RLH (KX RuK c) (KX RuK (c + 1)) := fun m m1 m2 I w1 w2 f1 f2 h => ⟨h I.2.2.1, KB.rl c I.2.2.2 f1 f2⟩
theorem RuK.ru (c : Nat) : ∀ m, KX RuK c m → ∃ P Q, RuR m P Q := fun m k => by
  obtain ⟨P, Q, h, -⟩ := k.1
  exact ⟨P, Q, h⟩
end RUX
