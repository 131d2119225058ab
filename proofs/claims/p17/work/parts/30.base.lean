/-! numbers -/
theorem fb_rng (x : Int32) : -2147483648 ≤ x.toInt ∧ x.toInt < 2147483648 := by
  have h1 := Int32.le_toInt x
  have h2 := Int32.toInt_lt x
  omega
theorem fb_bmod {z : Int} (h1 : -2147483648 ≤ z) (h2 : z < 2147483648) : z.bmod (2 ^ 32) = z := by
  rw [Int.bmod_eq_of_le (by omega) (by omega)]
theorem fb_addI {x y : Int32} (h1 : -2147483648 ≤ x.toInt + y.toInt) (h2 : x.toInt + y.toInt < 2147483648) : (x + y).toInt = x.toInt + y.toInt := by
  rw [Int32.toInt_add, fb_bmod h1 h2]
theorem fb_subI {x y : Int32} (h1 : -2147483648 ≤ x.toInt - y.toInt) (h2 : x.toInt - y.toInt < 2147483648) : (x - y).toInt = x.toInt - y.toInt := by
  rw [Int32.toInt_sub, fb_bmod h1 h2]
theorem fb_mulI {x y : Int32} (h1 : -2147483648 ≤ x.toInt * y.toInt) (h2 : x.toInt * y.toInt < 2147483648) : (x * y).toInt = x.toInt * y.toInt := by
  rw [Int32.toInt_mul, fb_bmod h1 h2]
theorem z_le {a b : Int32} (h : a ≤ b) : a.toInt ≤ b.toInt := (fa_le _ _).mp h
theorem z_nle {a b : Int32} (h : ¬ a ≤ b) : b.toInt < a.toInt := (fa_lt _ _).mp (fa_of_nle h)
theorem z_lt {a b : Int32} (h : a < b) : a.toInt < b.toInt := (fa_lt _ _).mp h
theorem z_nlt {a b : Int32} (h : ¬ a < b) : b.toInt ≤ a.toInt := (fa_le _ _).mp (fa_of_nlt h)
theorem z_eq {a b : Int32} (h : a = b) : a.toInt = b.toInt := congrArg _ h
theorem z_ne {a b : Int32} (h : ¬ a = b) : ¬ a.toInt = b.toInt := fun e => h ((fa_eq _ _).mpr e)
theorem z_ne' {a b : Int32} (h : ¬ a.toInt = b.toInt) : ¬ a = b := fun e => h (congrArg _ e)
theorem y_ler {a c : Int32} {n : Int} (e : c.toInt = n) (h : a ≤ c) : a.toInt ≤ n := e ▸ z_le h
theorem y_lel {a c : Int32} {n : Int} (e : c.toInt = n) (h : c ≤ a) : n ≤ a.toInt := e ▸ z_le h
theorem y_nler {a c : Int32} {n : Int} (e : c.toInt = n) (h : ¬ a ≤ c) : n < a.toInt := e ▸ z_nle h
theorem y_nlel {a c : Int32} {n : Int} (e : c.toInt = n) (h : ¬ c ≤ a) : a.toInt < n := e ▸ z_nle h
theorem y_ltr {a c : Int32} {n : Int} (e : c.toInt = n) (h : a < c) : a.toInt < n := e ▸ z_lt h
theorem y_ltl {a c : Int32} {n : Int} (e : c.toInt = n) (h : c < a) : n < a.toInt := e ▸ z_lt h
theorem y_nltr {a c : Int32} {n : Int} (e : c.toInt = n) (h : ¬ a < c) : n ≤ a.toInt := e ▸ z_nlt h
theorem y_nltl {a c : Int32} {n : Int} (e : c.toInt = n) (h : ¬ c < a) : a.toInt ≤ n := e ▸ z_nlt h
theorem y_eqr {a c : Int32} {n : Int} (e : c.toInt = n) (h : a = c) : a.toInt = n := e ▸ z_eq h
theorem y_eql {a c : Int32} {n : Int} (e : c.toInt = n) (h : c = a) : a.toInt = n := e ▸ (z_eq h).symm
theorem y_ner {a c : Int32} {n : Int} (e : c.toInt = n) (h : ¬ a = c) : ¬ a.toInt = n := e ▸ z_ne h
theorem y_nel {a c : Int32} {n : Int} (e : c.toInt = n) (h : ¬ c = a) : ¬ a.toInt = n := fun q => z_ne h (e.trans q.symm)
theorem y_nn {a c : Int32} {n : Int} (e : c.toInt = n) (h : ¬ a.toInt = n) : ¬ a = c := fun q => h ((congrArg _ q).trans e)
theorem vpi {x : Int32} {n : Nat} (h : 0 ≤ x.toInt) (h2 : x.toInt < (n : Int)) : vp_in x n := vp_in_iff.mpr ⟨h, h2⟩
theorem bz_of {x : Int32} (h : 0 ≤ x.toInt) (h2 : x.toInt ≤ 1) : bz x := by
  have h3 : x.toInt = 0 ∨ x.toInt = 1 := by omega
  rcases h3 with e | e
  · exact Or.inl ((fa_eq _ _).mpr e)
  · exact Or.inr ((fa_eq _ _).mpr e)
theorem ti_add {x y : Int32} (h : -2147483648 ≤ x.toInt + y.toInt ∧ x.toInt + y.toInt < 2147483648) : (x + y).toInt = x.toInt + y.toInt := fb_addI h.1 h.2
theorem ti_sub {x y : Int32} (h : -2147483648 ≤ x.toInt - y.toInt ∧ x.toInt - y.toInt < 2147483648) : (x - y).toInt = x.toInt - y.toInt := fb_subI h.1 h.2
theorem ti_addc {x y : Int32} {c : Int} (e : y.toInt = c) (h : -2147483648 ≤ x.toInt + c ∧ x.toInt + c < 2147483648) : (x + y).toInt = x.toInt + c := by
  rw [fb_addI (by rw [e]; exact h.1) (by rw [e]; exact h.2), e]
theorem ti_addl {x y : Int32} {c : Int} (e : x.toInt = c) (h : -2147483648 ≤ c + y.toInt ∧ c + y.toInt < 2147483648) : (x + y).toInt = c + y.toInt := by
  rw [fb_addI (by rw [e]; exact h.1) (by rw [e]; exact h.2), e]
theorem ti_subc {x y : Int32} {c : Int} (e : y.toInt = c) (h : -2147483648 ≤ x.toInt - c ∧ x.toInt - c < 2147483648) : (x - y).toInt = x.toInt - c := by
  rw [fb_subI (by rw [e]; exact h.1) (by rw [e]; exact h.2), e]
theorem ti_subl {x y : Int32} {c : Int} (e : x.toInt = c) (h : -2147483648 ≤ c - y.toInt ∧ c - y.toInt < 2147483648) : (x - y).toInt = c - y.toInt := by
  rw [fb_subI (by rw [e]; exact h.1) (by rw [e]; exact h.2), e]
theorem ti_mulc {c : Int} {y x : Int32} (hy : y.toInt = c) (h : -2147483648 ≤ c * x.toInt ∧ c * x.toInt < 2147483648) : (y * x).toInt = c * x.toInt := by
  rw [fb_mulI (by rw [hy]; exact h.1) (by rw [hy]; exact h.2), hy]
theorem ti_mulr {c : Int} {y x : Int32} (hy : y.toInt = c) (h : -2147483648 ≤ c * x.toInt ∧ c * x.toInt < 2147483648) : (x * y).toInt = c * x.toInt := by
  rw [fb_mulI (by rw [hy, Int.mul_comm]; exact h.1) (by rw [hy, Int.mul_comm]; exact h.2), hy, Int.mul_comm]
theorem ti_lt (a b c d : Int32) : (a.toInt < b.toInt ∧ (if a < b then c else d).toInt = c.toInt) ∨ (b.toInt ≤ a.toInt ∧ (if a < b then c else d).toInt = d.toInt) := by
  by_cases h : a < b
  · exact Or.inl ⟨z_lt h, by rw [if_pos h]⟩
  · exact Or.inr ⟨z_nlt h, by rw [if_neg h]⟩
theorem ti_ltv {a b c d : Int32} {A B C D : Int} (ha : a.toInt = A) (hb : b.toInt = B) (hc : c.toInt = C) (hd : d.toInt = D) : (A < B ∧ (if a < b then c else d).toInt = C) ∨ (B ≤ A ∧ (if a < b then c else d).toInt = D) := by
  subst ha hb hc hd
  exact ti_lt a b c d
theorem zn_of {x : Int32} (h : 0 ≤ x.toInt) : ∃ j : Nat, j < 2147483648 ∧ x = nI j :=
  nI_of (fun q => by
    have h1 := z_lt q
    have h2 : (0 : Int32).toInt = 0 := rfl
    omega)
theorem tn {x : Int32} (h : 0 ≤ x.toInt) : ((x.toNatClampNeg : Nat) : Int) = x.toInt := by
  obtain ⟨j, hj, rfl⟩ := zn_of h
  rw [nI_clamp hj, nI_toInt hj]
theorem t_and {x : Int32} {k : Nat} (hk : k < 31) {c : Int32} (hc : c = nI (2 ^ k - 1)) : 0 ≤ (x &&& c).toInt ∧ (x &&& c).toInt < 2 ^ k := by
  obtain ⟨n, hn, rfl⟩ := wb_of32 x
  rw [hc, fa_mask]
  have h1 : n % 2 ^ k < 2 ^ k := Nat.mod_lt _ (Nat.two_pow_pos k)
  have h2 : 2 ^ k < 2 ^ 31 := Nat.pow_lt_pow_right (by decide) hk
  rw [nI_toInt (by omega)]
  have h3 : (2 : Int) ^ k = ((2 ^ k : Nat) : Int) := by simp
  omega
theorem t_and1 (x : Int32) : 0 ≤ (x &&& (1 : Int32)).toInt ∧ (x &&& (1 : Int32)).toInt ≤ 1 := by have := t_and (x := x) (k := 1) (by decide) (c := 1) rfl; omega
theorem t_and7 (x : Int32) : 0 ≤ (x &&& (7 : Int32)).toInt ∧ (x &&& (7 : Int32)).toInt ≤ 7 := by have := t_and (x := x) (k := 3) (by decide) (c := 7) rfl; omega
theorem t_and8191 (x : Int32) : 0 ≤ (x &&& (8191 : Int32)).toInt ∧ (x &&& (8191 : Int32)).toInt ≤ 8191 := by have := t_and (x := x) (k := 13) (by decide) (c := 8191) rfl; omega
theorem t_and1023 (x : Int32) : 0 ≤ (x &&& (1023 : Int32)).toInt ∧ (x &&& (1023 : Int32)).toInt ≤ 1023 := by have := t_and (x := x) (k := 10) (by decide) (c := 1023) rfl; omega
theorem t_div {x y : Int32} {c : Nat} (hy : y = nI c) (hc : 0 < c) (hc2 : c < 2147483648) (h : 0 ≤ x.toInt) : (x / y).toInt = x.toInt / (c : Int) := by
  obtain ⟨j, hj, rfl⟩ := zn_of h
  rw [hy]
  have e : nI j / nI c = nI (j / c) := pk_div (by omega) hc (by omega)
  rw [e, nI_toInt (Nat.lt_of_le_of_lt (Nat.div_le_self _ _) hj), nI_toInt hj]
  simp
theorem t_shl1 {x : Int32} (h1 : 1 ≤ x.toInt) (h2 : x.toInt ≤ 6) : 2 ≤ ((1 : Int32) <<< (x &&& 31)).toInt ∧ ((1 : Int32) <<< (x &&& 31)).toInt ≤ 64 := by
  obtain ⟨j, hj, rfl⟩ := zn_of (by omega : 0 ≤ x.toInt)
  rw [nI_toInt hj] at h1 h2
  have h3 : ∀ k : Fin 7, 1 ≤ k.val → 2 ≤ ((1 : Int32) <<< (nI k.val &&& 31)).toInt ∧ ((1 : Int32) <<< (nI k.val &&& 31)).toInt ≤ 64 := by decide +kernel
  exact h3 ⟨j, by omega⟩ (by show 1 ≤ j; omega)
/-! SAFETY BY PROGRAM: what a number cell holds, where cells lie, what stays -/
def rgK (k : Nat) : Nat := if k = 0 then 23 else if k = 1 then 23 else if k = 8 then 49 else if k = 10 then 25 else if k = 11 then 25 else if k = 12 then 52 else if k = 14 then 21 else if k = 16 then 26 else if k = 17 then 20 else if k = 18 then 22 else if k = 19 then 22 else if k = 20 then 22 else if k = 21 then 22 else if k = 22 then 22 else if k = 27 then 48 else if k = 28 then 28 else if k = 30 then 29 else if k = 32 then 31 else if k = 33 then 31 else if k = 34 then 33 else if k = 35 then 33 else if k = 43 then 35 else if k = 45 then 35 else if k = 46 then 35 else if k = 48 then 37 else if k = 49 then 37 else if k = 52 then 39 else if k = 53 then 45 else 50
def rg (a k : Nat) : Nat := if a < 1 then (if k = 11 then 44 else if k = 10 then 54 else if k = 9 then 54 else if k < 12 then 7 else if k = 15 then 8 else 9) else if a < 3 then 0 else if a = 3 then (if k = 3 then 41 else if k = 4 then 41 else if k = 5 then 42 else if k < 6 then 1 else 2) else if a = 4 then 43 else if a = 7 then 14 else if a = 12 then 14 else if a < 15 then 1 else if a < 21 then 3 else if a < 26 then 4 else if a < 31 then 5 else if a = 31 then (if k = 1 then 53 else if k = 2 then 53 else 6) else if a < 133 then 6 else if a < 146 then 7 else if a < 149 then 8 else if a < 151 then 9 else if a < 156 then 10 else if a < 166 then 11 else if a < 173 then 12 else if a < 187 then 13 else if a = 187 then rgK k else if a = 188 then 24 else if a = 189 then 46 else if a = 190 then 24 else if a = 191 then 24 else if a = 192 then 24 else if a = 193 then 47 else if a = 194 then 55 else if a = 195 then 21 else if a = 196 then 26 else if a = 197 then 27 else if a = 198 then 27 else if a = 199 then 27 else if a = 200 then 48 else if a = 201 then 29 else if a = 202 then 30 else if a = 203 then 32 else if a = 204 then 34 else if a = 205 then 35 else if a = 206 then 35 else if a = 207 then 35 else if a = 208 then 35 else if a = 209 then 35 else if a = 210 then 35 else if a = 211 then 36 else if a = 212 then 38 else if a = 213 then 39 else if a = 214 then 40 else if a = 215 then 40 else if a = 216 then 40 else 51
def TY (a k : Nat) : Option (Int × Int) := if a < 146 then (if a < 135 then (if a < 10 then (if a = 0 then (if k = 15 then some (0, 12) else if k = 18 then some (0, 10) else none) else if a = 1 then (if k = 1 then some (0, 80) else none) else if a = 3 then (if k = 3 then some (0, 8) else if k = 4 then some (0, 4) else none) else if a = 5 then (if k = 4 then some (0, 40) else if k = 5 then some (0, 40) else if k = 6 then some (0, 4) else none) else none) else (if a = 10 then (if k = 4 then some (0, 40) else if k = 5 then some (0, 40) else if k = 6 then some (0, 4) else none) else if a = 15 then (if k = 1 then some (0, 8) else if k = 2 then some (0, 4) else none) else if a = 31 then (if k = 1 then some (0, 20) else if k = 2 then some (0, 19) else none) else if a = 134 then (if k = 5 then some (0, 13) else if k = 6 then some (0, 48) else none) else none)) else (if a < 140 then (if a = 135 then some (0, 7) else if a = 136 then some (0, 7) else if a = 138 then some (0, 48) else if a = 139 then some (0, 7) else none) else (if a < 142 then (if a = 140 then (if k = 5 then some (0, 13) else if k = 6 then some (0, 48) else none) else if a = 141 then some (0, 7) else none) else (if a = 142 then some (0, 7) else if a = 144 then some (0, 48) else if a = 145 then some (0, 7) else none)))) else (if a < 166 then (if a < 155 then (if a = 146 then some (0, 7) else if a = 147 then some (0, 7) else if a = 151 then (if k = 4 then some (0, 3000) else none) else if a = 154 then some (0, 3000) else none) else (if a = 155 then some (0, 8191) else if a = 156 then (if k = 6 then some (0, 2999) else none) else if a = 163 then some (-1, 2999) else if a = 165 then some (0, (k : Int)) else none)) else (if a < 203 then (if a = 166 then (if k = 3 then some (0, 2999) else none) else if a = 187 then (if k = 0 then some (1, 4) else if k = 1 then some (0, 8) else if k = 10 then some (0, 40) else if k = 11 then some (0, 12) else if k = 14 then some (0, 80) else if k = 16 then some (0, 16) else if k = 27 then some (0, 40) else if k = 28 then some (-1, 7) else if k = 30 then some (0, 20) else if k = 43 then some (0, 3000) else if k = 45 then some (0, 2999) else if k = 46 then some (0, 2000) else if k = 52 then some (0, 12) else none) else if a = 194 then (if k % 4 < 2 then some (0, 7) else none) else if a = 199 then (if k % 4 < 2 then some (0, 7) else none) else none) else (if a < 208 then (if a = 203 then some (0, 8) else if a = 207 then some (0, (k : Int)) else none) else (if a = 208 then some (-1, 2999) else if a = 210 then some (0, 3000) else if a = 213 then (if k % 3 < 2 then some (0, 7) else none) else none))))
/-! what a world has -/
abbrev RS (l : List Nat) (a k : Nat) : Prop := l.elem (rg a k) = true
def SR (b ρ : Nat) : Prop := ∀ j k, j ≤ 4 → rg (b + j) k = ρ ∧ TY (b + j) k = none
def SS (b ρ : Nat) : Prop := St b ∧ SR b ρ
def RF (f : Nat → Nat → Option Nat) : Prop := (∃ r, f 3 1 = some r ∧ (r = 5 ∨ r = 10)) ∧ (∃ r, f 3 2 = some r ∧ (r = 5 ∨ r = 10)) ∧ (∃ r, f 0 9 = some r ∧ (r = 134 ∨ r = 140)) ∧ (∃ r, f 0 10 = some r ∧ (r = 134 ∨ r = 140)) ∧ (∀ k, k < 20 → ∃ r, f 32 k = some r ∧ SS r 6) ∧ (∀ k, k < 2 → ∃ r, f 133 k = some r ∧ (r = 173 ∨ r = 180)) ∧ (∀ k, k < 20 → f 32 k = some (33 + 5 * k)) ∧ (∀ k, k < 2 → f 133 k = some (173 + 7 * k))
def WT (m : Wm) : Prop := (∀ a k lo hi, TY a k = some (lo, hi) → lo ≤ (m.1 a k).toInt ∧ (m.1 a k).toInt ≤ hi) ∧ RF m.2.2
def Fx (S : Nat → Nat → Prop) (m m' : Wm) : Prop := ∀ a k, ¬ S a k → m'.1 a k = m.1 a k ∧ m'.2.1 a k = m.2.1 a k ∧ m'.2.2 a k = m.2.2 a k
theorem Fx.rf {S : Nat → Nat → Prop} {m : Wm} : Fx S m m := fun _ _ _ => ⟨rfl, rfl, rfl⟩
theorem Fx.tr {S S' : Nat → Nat → Prop} {m m' m'' : Wm} (h : Fx S m m') (h2 : Fx S' m' m'') (hs : ∀ a k, S' a k → S a k) : Fx S m m'' := fun a k hk => by
  obtain ⟨a1, a2, a3⟩ := h a k hk
  obtain ⟨b1, b2, b3⟩ := h2 a k (fun q => hk (hs a k q))
  exact ⟨b1.trans a1, b2.trans a2, b3.trans a3⟩
theorem Fx.i {S : Nat → Nat → Prop} {m m' : Wm} {a k : Nat} {v : Int32} (h : Fx S m m') (hS : S a k) : Fx S m (uI m' a k v) := fun b j hj => ⟨(if_neg (fun q => hj (by rw [q.1, q.2]; exact hS))).trans (h b j hj).1, (h b j hj).2⟩
theorem Fx.l {S : Nat → Nat → Prop} {m m' : Wm} {a k : Nat} {v : Int64} (h : Fx S m m') (hS : S a k) : Fx S m (uL m' a k v) := fun b j hj => ⟨(h b j hj).1, (if_neg (fun q => hj (by rw [q.1, q.2]; exact hS))).trans (h b j hj).2.1, (h b j hj).2.2⟩
theorem Fx.r {S : Nat → Nat → Prop} {m m' : Wm} {a k : Nat} {v : Option Nat} (h : Fx S m m') (hS : S a k) : Fx S m (uR m' a k v) := fun b j hj => ⟨(h b j hj).1, (h b j hj).2.1, (if_neg (fun q => hj (by rw [q.1, q.2]; exact hS))).trans (h b j hj).2.2⟩
theorem Fx.c {S : Nat → Nat → Prop} {m m' : Wm} {a a0 s e n : Nat} (h : Fx S m m') (hS : ∀ k, S a k) : Fx S m (uC m' a0 a s e n) := fun b j hj => ⟨(if_neg (fun (q : b = a) => hj (by rw [q]; exact hS j))).trans (h b j hj).1, (h b j hj).2⟩
theorem Fx.at {S : Nat → Nat → Prop} {m m' : Wm} (h : Fx S m m') {a k : Nat} (hS : ¬ S a k) : m'.1 a k = m.1 a k := (h a k hS).1
theorem RS_sub {l1 l2 : List Nat} (h : (l1.all fun x => l2.elem x) = true) (a k : Nat) (hk : RS l1 a k) : RS l2 a k :=
  List.all_eq_true.mp h _ (List.mem_of_elem_eq_true hk)
theorem RS_cons {l1 l2 : List Nat} {ρ : Nat} (h : (l1.all fun x => l2.elem x) = true) (a k : Nat) (hk : RS (ρ :: l1) a k) : RS (ρ :: l2) a k := by
  have h1 := List.mem_of_elem_eq_true hk
  refine List.elem_eq_true_of_mem ?_
  rcases List.mem_cons.mp h1 with e | e
  · rw [e]; exact List.mem_cons_self
  · exact List.mem_cons_of_mem _ (List.mem_of_elem_eq_true (List.all_eq_true.mp h _ e))
theorem RS_tl {l1 l2 : List Nat} {ρ : Nat} (h : (l1.all fun x => l2.elem x) = true) (a k : Nat) (hk : RS l1 a k) : RS (ρ :: l2) a k :=
  List.elem_eq_true_of_mem (List.mem_cons_of_mem _ (List.mem_of_elem_eq_true (List.all_eq_true.mp h _ (List.mem_of_elem_eq_true hk))))
theorem RS_hd {l : List Nat} {b ρ j k : Nat} (h : SR b ρ) (hj : j ≤ 4) : RS (ρ :: l) (b + j) k := by
  unfold RS
  rw [(h j k hj).1]
  exact List.elem_eq_true_of_mem List.mem_cons_self
theorem RS_hd0 {l : List Nat} {b ρ k : Nat} (h : SR b ρ) : RS (ρ :: l) b k := RS_hd (j := 0) h (by decide)
theorem WT.at {m : Wm} (h : WT m) {a k : Nat} {lo hi : Int} (e : TY a k = some (lo, hi)) : lo ≤ (m.1 a k).toInt ∧ (m.1 a k).toInt ≤ hi := h.1 a k lo hi e
theorem WT.t {m : Wm} (h : WT m) {a k : Nat} {lo hi : Int} {v : Int32} (e : TY a k = some (lo, hi)) (h1 : lo ≤ v.toInt) (h2 : v.toInt ≤ hi) : WT (uI m a k v) := ⟨fun b j lo' hi' e' => by
    show lo' ≤ (if b = a ∧ j = k then v else m.1 b j).toInt ∧ (if b = a ∧ j = k then v else m.1 b j).toInt ≤ hi'
    by_cases hc : b = a ∧ j = k
    · rw [if_pos hc]
      obtain ⟨rfl, rfl⟩ := hc
      rw [e] at e'
      cases e'
      exact ⟨h1, h2⟩
    · rw [if_neg hc]
      exact h.1 b j lo' hi' e', h.2⟩
theorem WT.n {m : Wm} (h : WT m) {a k : Nat} {v : Int32} (e : TY a k = none) : WT (uI m a k v) := ⟨fun b j lo' hi' e' => by
    show lo' ≤ (if b = a ∧ j = k then v else m.1 b j).toInt ∧ (if b = a ∧ j = k then v else m.1 b j).toInt ≤ hi'
    by_cases hc : b = a ∧ j = k
    · obtain ⟨rfl, rfl⟩ := hc
      rw [e] at e'
      cases e'
    · rw [if_neg hc]
      exact h.1 b j lo' hi' e', h.2⟩
theorem WT.l {m : Wm} (h : WT m) {a k : Nat} {v : Int64} : WT (uL m a k v) := h
theorem WT.c {m : Wm} (h : WT m) {a0 a s e n : Nat} (hn : ∀ k, TY a k = none) : WT (uC m a0 a s e n) := ⟨fun b j lo hi e' => by
    show lo ≤ (if b = a then va_cpy (m.1 a0) (m.1 a) s e n j else m.1 b j).toInt ∧ (if b = a then va_cpy (m.1 a0) (m.1 a) s e n j else m.1 b j).toInt ≤ hi
    by_cases hc : b = a
    · subst hc
      rw [hn j] at e'
      cases e'
    · rw [if_neg hc]
      exact h.1 b j lo hi e', h.2⟩
theorem WT.s {m : Wm} (h : WT m) {b ρ j k : Nat} {v : Int32} (hb : SR b ρ) (hj : j ≤ 4) : WT (uI m (b + j) k v) := h.n (hb j k hj).2
theorem WT.s0 {m : Wm} (h : WT m) {b ρ k : Nat} {v : Int32} (hb : SR b ρ) : WT (uI m b k v) := h.n (hb 0 k (by decide)).2
theorem WT.r31 {m : Wm} (h : WT m) : ∃ r, m.2.2 3 1 = some r ∧ (r = 5 ∨ r = 10) := h.2.1
theorem WT.r32 {m : Wm} (h : WT m) : ∃ r, m.2.2 3 2 = some r ∧ (r = 5 ∨ r = 10) := h.2.2.1
theorem WT.r09 {m : Wm} (h : WT m) : ∃ r, m.2.2 0 9 = some r ∧ (r = 134 ∨ r = 140) := h.2.2.2.1
theorem WT.r010 {m : Wm} (h : WT m) : ∃ r, m.2.2 0 10 = some r ∧ (r = 134 ∨ r = 140) := h.2.2.2.2.1
theorem WT.ring {m : Wm} (h : WT m) {x : Int32} (h0 : 0 ≤ x.toInt) (h1 : x.toInt < 20) : ∃ r, m.2.2 32 x.toNatClampNeg = some r ∧ SS r 6 := h.2.2.2.2.2.1 _ (by have := tn h0; omega)
theorem WT.keep {m : Wm} (h : WT m) {x : Int32} (h0 : 0 ≤ x.toInt) (h1 : x.toInt < 2) : ∃ r, m.2.2 133 x.toNatClampNeg = some r ∧ (r = 173 ∨ r = 180) := h.2.2.2.2.2.2.1 _ (by have := tn h0; omega)
theorem WT.ringx {m : Wm} (h : WT m) {k : Nat} (hk : k < 20) : m.2.2 32 k = some (33 + 5 * k) := h.2.2.2.2.2.2.2.1 k hk
theorem WT.keepx {m : Wm} (h : WT m) {k : Nat} (hk : k < 2) : m.2.2 133 k = some (173 + 7 * k) := h.2.2.2.2.2.2.2.2 k hk
theorem Ru_of {r : Nat} (h : r = 5 ∨ r = 10) : Ru r := by rcases h with rfl | rfl; exact Ru_5; exact Ru_10
theorem Pl_of {r : Nat} (h : r = 134 ∨ r = 140) : Pl r := by rcases h with rfl | rfl; exact Pl_134; exact Pl_140
theorem Ke_of {r : Nat} (h : r = 173 ∨ r = 180) : Ke r := by rcases h with rfl | rfl; exact Ke_173; exact Ke_180
theorem WT.pl {m : Wm} (h : WT m) {r k : Nat} {lo hi : Int} (hr : r = 134 ∨ r = 140) (e : TY 134 k = some (lo, hi)) (e2 : TY 140 k = some (lo, hi)) : lo ≤ (m.1 r k).toInt ∧ (m.1 r k).toInt ≤ hi := by
  rcases hr with rfl | rfl
  · exact h.at e
  · exact h.at e2
theorem WT.plj {m : Wm} (h : WT m) {r j k : Nat} {lo hi : Int} (hr : r = 134 ∨ r = 140) (e : TY (134 + j) k = some (lo, hi)) (e2 : TY (140 + j) k = some (lo, hi)) : lo ≤ (m.1 (r + j) k).toInt ∧ (m.1 (r + j) k).toInt ≤ hi := by
  rcases hr with rfl | rfl
  · exact h.at e
  · exact h.at e2
theorem WT.rR {m : Wm} (h : WT m) {k r : Nat} (hk : k = 1 ∨ k = 2) (hr : r = 5 ∨ r = 10) : WT (uR m 3 k (some r)) := ⟨h.1, by
  obtain ⟨h1, h2, h3, h4, h5, h6, h7, h8⟩ := h.2
  refine ⟨?_, ?_, h3, h4, fun j hj => ?_, fun j hj => ?_, fun j hj => h7 j hj, fun j hj => h8 j hj⟩
  · rcases hk with rfl | rfl
    · exact ⟨r, rfl, hr⟩
    · exact h1
  · rcases hk with rfl | rfl
    · exact h2
    · exact ⟨r, rfl, hr⟩
  · exact h5 j hj
  · exact h6 j hj⟩
theorem WT.rP {m : Wm} (h : WT m) {k r : Nat} (hk : k = 9 ∨ k = 10) (hr : r = 134 ∨ r = 140) : WT (uR m 0 k (some r)) := ⟨h.1, by
  obtain ⟨h1, h2, h3, h4, h5, h6, h7, h8⟩ := h.2
  refine ⟨h1, h2, ?_, ?_, fun j hj => ?_, fun j hj => ?_, fun j hj => h7 j hj, fun j hj => h8 j hj⟩
  · rcases hk with rfl | rfl
    · exact ⟨r, rfl, hr⟩
    · exact h3
  · rcases hk with rfl | rfl
    · exact h4
    · exact ⟨r, rfl, hr⟩
  · exact h5 j hj
  · exact h6 j hj⟩
theorem WT.r18 {m : Wm} (h : WT m) {r : Option Nat} : WT (uR m 187 18 r) := ⟨h.1, by
  obtain ⟨h1, h2, h3, h4, h5, h6, h7, h8⟩ := h.2
  exact ⟨h1, h2, h3, h4, fun j hj => h5 j hj, fun j hj => h6 j hj, fun j hj => h7 j hj, fun j hj => h8 j hj⟩⟩
theorem SS_21 : SS 21 4 := by
  refine ⟨St_21, fun j k hj => ?_⟩
  have h : j = 0 ∨ j = 1 ∨ j = 2 ∨ j = 3 ∨ j = 4 := by omega
  rcases h with rfl | rfl | rfl | rfl | rfl
  all_goals exact ⟨rfl, rfl⟩
theorem SS_26 : SS 26 5 := by
  refine ⟨St_26, fun j k hj => ?_⟩
  have h : j = 0 ∨ j = 1 ∨ j = 2 ∨ j = 3 ∨ j = 4 := by omega
  rcases h with rfl | rfl | rfl | rfl | rfl
  all_goals exact ⟨rfl, rfl⟩
theorem SS_16 : SS 16 3 := by
  refine ⟨St_16, fun j k hj => ?_⟩
  have h : j = 0 ∨ j = 1 ∨ j = 2 ∨ j = 3 ∨ j = 4 := by omega
  rcases h with rfl | rfl | rfl | rfl | rfl
  all_goals exact ⟨rfl, rfl⟩
theorem SS_157 : SS 157 11 := by
  refine ⟨St_157, fun j k hj => ?_⟩
  have h : j = 0 ∨ j = 1 ∨ j = 2 ∨ j = 3 ∨ j = 4 := by omega
  rcases h with rfl | rfl | rfl | rfl | rfl
  all_goals exact ⟨rfl, rfl⟩
theorem SS_167 : SS 167 12 := by
  refine ⟨St_167, fun j k hj => ?_⟩
  have h : j = 0 ∨ j = 1 ∨ j = 2 ∨ j = 3 ∨ j = 4 := by omega
  rcases h with rfl | rfl | rfl | rfl | rfl
  all_goals exact ⟨rfl, rfl⟩
theorem SS_174 : SS (173 + 1) 13 := by
  refine ⟨St_174, fun j k hj => ?_⟩
  have h : j = 0 ∨ j = 1 ∨ j = 2 ∨ j = 3 ∨ j = 4 := by omega
  rcases h with rfl | rfl | rfl | rfl | rfl
  all_goals exact ⟨rfl, rfl⟩
theorem SS_181 : SS (180 + 1) 13 := by
  refine ⟨St_181, fun j k hj => ?_⟩
  have h : j = 0 ∨ j = 1 ∨ j = 2 ∨ j = 3 ∨ j = 4 := by omega
  rcases h with rfl | rfl | rfl | rfl | rfl
  all_goals exact ⟨rfl, rfl⟩
/-! one league copied over another -/
theorem s_X8_copy {ad : Nat → Nat} {d : Nat} {m : Wm} {b0 b1 ρ0 ρ1 : Nat} (w : WT m) (hb0 : SS b0 ρ0) (hb1 : SS b1 ρ1) : Ct ad μX8_copy (d + 1) [.ref (ad b0), .ref (ad b1)] m (fun r m' => WT m' ∧ Fx (RS (ρ0 :: [])) m m' ∧ r = none) := by
  have h := hb0.2
  refine v_X8_copy hb0.1 hb1.1 ⟨by decide, by decide, by decide, by decide, by decide, by decide, by decide, by decide, by decide, by decide, by decide, by decide, by decide, by decide, by decide, by decide, by decide, by decide, by decide, by decide, ?_⟩
  exact ⟨((((w.c (fun k => (h 1 k (by decide)).2)).c (fun k => (h 2 k (by decide)).2)).c (fun k => (h 3 k (by decide)).2)).c (fun k => (h 4 k (by decide)).2)).s0 h, ((((Fx.rf.c (fun k => RS_hd h (by decide))).c (fun k => RS_hd h (by decide))).c (fun k => RS_hd h (by decide))).c (fun k => RS_hd h (by decide))).i (RS_hd0 h), rfl⟩
theorem s_J6_bitCount {ad : Nat → Nat} {d : Nat} {m : Wm} {x : Int32} (w : WT m) : Ct ad μJ6_bitCount d [.int x] m (fun r m' => WT m' ∧ Fx (RS []) m m' ∧ ∃ v : Int32, r = some (.int v)) :=
  v_bitCount.to (by rintro _ _ ⟨rfl, rfl⟩; exact ⟨w, Fx.rf, _, rfl⟩)
