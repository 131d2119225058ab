section
/-! plain facts on numbers and arrays, to paste: each family by itself; over the kit's rows on nI and upd -/
/-! ===== order of ints, in all its forms, and through longs ===== -/
theorem fa_lt (a b : Int32) : a < b ↔ a.toInt < b.toInt := Int32.lt_iff_toInt_lt
theorem fa_le (a b : Int32) : a ≤ b ↔ a.toInt ≤ b.toInt := Int32.le_iff_toInt_le
theorem fa_eq (a b : Int32) : a = b ↔ a.toInt = b.toInt := Int32.toInt_inj.symm
theorem fa_lt64 (a b : Int64) : a < b ↔ a.toInt < b.toInt := Int64.lt_iff_toInt_lt
theorem fa_le64 (a b : Int64) : a ≤ b ↔ a.toInt ≤ b.toInt := Int64.le_iff_toInt_le
theorem fa_eq64 (a b : Int64) : a = b ↔ a.toInt = b.toInt := Int64.toInt_inj.symm
/-- a comparison of two ints taken as longs -/
theorem fa_wide_lt (a b : Int32) : a.toInt64 < b.toInt64 ↔ a < b := by rw [fa_lt64, fa_lt, Int32.toInt_toInt64, Int32.toInt_toInt64]
theorem fa_wide_le (a b : Int32) : a.toInt64 ≤ b.toInt64 ↔ a ≤ b := by rw [fa_le64, fa_le, Int32.toInt_toInt64, Int32.toInt_toInt64]
theorem fa_wide_eq (a b : Int32) : a.toInt64 = b.toInt64 ↔ a = b := by rw [fa_eq64, fa_eq, Int32.toInt_toInt64, Int32.toInt_toInt64]
/-- one strict comparison gives all the others -/
theorem fa_of_lt {a b : Int32} (h : a < b) : a ≤ b ∧ ¬ b ≤ a ∧ ¬ b < a ∧ a ≠ b ∧ b ≠ a := by
  rw [fa_lt] at h
  refine ⟨?_, ?_, ?_, ?_, ?_⟩
  · rw [fa_le]; omega
  · rw [fa_le]; omega
  · rw [fa_lt]; omega
  · intro e; rw [fa_eq] at e; omega
  · intro e; rw [fa_eq] at e; omega
theorem fa_of_nlt {a b : Int32} (h : ¬ a < b) : b ≤ a := by
  rw [fa_lt] at h
  rw [fa_le]
  omega
theorem fa_of_nle {a b : Int32} (h : ¬ a ≤ b) : b < a := by
  rw [fa_le] at h
  rw [fa_lt]
  omega
theorem fa_le_ne {a b : Int32} (h : a ≤ b) (h2 : a ≠ b) : a < b := by
  rw [fa_le] at h
  rw [fa_lt]
  have h3 : a.toInt ≠ b.toInt := fun e => h2 ((fa_eq a b).mpr e)
  omega
theorem fa_three (a b : Int32) : a < b ∨ a = b ∨ b < a := by
  rw [fa_lt, fa_lt, fa_eq]
  omega
theorem fa_trans {a b c : Int32} (h : a < b) (h2 : b ≤ c) : a < c := by
  rw [fa_lt] at *
  rw [fa_le] at h2
  omega
/-! ===== small literals as numbers ===== -/
theorem fa_lit (n : Nat) : (OfNat.ofNat n : Int32) = nI n := rfl
theorem fa_litL (n : Nat) : (OfNat.ofNat n : Int64) = lN n := rfl
/-! ===== bits of a number: 'or', masks, one bit ===== -/
theorem fa_and (a b : Nat) : nI a &&& nI b = nI (a &&& b) := by
  apply Int32.toBitVec_inj.1
  show BitVec.ofNat 32 a &&& BitVec.ofNat 32 b = BitVec.ofNat 32 (a &&& b)
  apply BitVec.eq_of_getLsbD_eq
  intro i hi
  simp [hi]
theorem fa_or (a b : Nat) : nI a ||| nI b = nI (a ||| b) := by
  apply Int32.toBitVec_inj.1
  show BitVec.ofNat 32 a ||| BitVec.ofNat 32 b = BitVec.ofNat 32 (a ||| b)
  apply BitVec.eq_of_getLsbD_eq
  intro i hi
  simp [hi]
/-- a remainder by a power of two, as a mask -/
theorem fa_mask (n k : Nat) : nI n &&& nI (2 ^ k - 1) = nI (n % 2 ^ k) := by rw [fa_and, Nat.and_two_pow_sub_one_eq_mod]
/-- 'or' of a high part and a low one that don't meet is their sum -/
theorem fa_or_sum {a k : Nat} (b : Nat) (h : a < 2 ^ k) : nI (2 ^ k * b) ||| nI a = nI (2 ^ k * b + a) := by rw [fa_or, Nat.two_pow_add_eq_or_of_lt h]
/-- one bit, by 'and' with a power of two -/
theorem fa_bit {n j : Nat} (hj : j < 31) : nI n &&& nI (2 ^ j) = 0 ↔ n.testBit j = false := by
  have h2 : (2 : Nat) ^ j < 2 ^ 31 := Nat.pow_lt_pow_right (by decide) hj
  have hle : n &&& 2 ^ j ≤ 2 ^ j := Nat.and_le_right
  have e : n &&& 2 ^ j = 0 ↔ n.testBit j = false := by
    constructor
    · intro h
      have h1 : (n &&& 2 ^ j).testBit j = false := by rw [h]; simp
      rw [Nat.testBit_and] at h1
      first | simpa using h1 | simpa [Nat.testBit_two_pow_self] using h1 | simpa [Nat.testBit_two_pow] using h1
    · intro h
      apply Nat.eq_of_testBit_eq
      intro i
      rw [Nat.testBit_and]
      by_cases hi : j = i
      · subst hi; simp [h]
      · first | (simp [Nat.testBit_two_pow, hi]; done) | (simp [Nat.testBit_two_pow_of_ne hi]; done)
  rw [fa_and]
  constructor
  · intro h
    apply e.mp
    rcases Nat.eq_zero_or_pos (n &&& 2 ^ j) with z | z
    · exact z
    · exact absurd h (nI_ne0 z (Nat.lt_of_le_of_lt hle h2))
  · intro h
    rw [e.mpr h]; exact nI_0
/-- a remainder by a power of two of a number that isn't negative, as Java divides -/
theorem fa_rem {a k : Nat} (ha : a < 2 ^ 31) (hk : k < 31) : nI a - nI a / nI (2 ^ k) * nI (2 ^ k) = nI (a % 2 ^ k) := pk_rem ha (Nat.two_pow_pos k) (Nat.pow_lt_pow_right (by decide) hk)
/-! ===== cuts to a byte, a short ===== -/
theorem fa_byte_xor (x y : Int32) : (x ^^^ y).toInt8 = x.toInt8 ^^^ y.toInt8 := by
  apply Int8.toBitVec_inj.1
  apply BitVec.eq_of_getLsbD_eq
  intro i hi
  first | (simp [hi]; done) | (simp [hi, BitVec.getLsbD_setWidth, BitVec.getLsbD_signExtend]; done)
theorem fa_short_xor (x y : Int32) : (x ^^^ y).toInt16 = x.toInt16 ^^^ y.toInt16 := by
  apply Int16.toBitVec_inj.1
  apply BitVec.eq_of_getLsbD_eq
  intro i hi
  first | (simp [hi]; done) | (simp [hi, BitVec.getLsbD_setWidth, BitVec.getLsbD_signExtend]; done)
/-- the cut to a byte sees the low byte alone -/
theorem fa_byte_low (x : Int32) : (x &&& 255).toInt8 = x.toInt8 := by
  apply Int8.toBitVec_inj.1
  apply BitVec.eq_of_getLsbD_eq
  intro i hi
  have h2 : (255 : Int32).toBitVec.getLsbD i = true := by
    have : ∀ j : Fin 8, (255 : Int32).toBitVec.getLsbD j.val = true := by decide +kernel
    exact this ⟨i, hi⟩
  have h4 : (x &&& 255).toBitVec.getLsbD i = x.toBitVec.getLsbD i := by
    show (x.toBitVec &&& (255 : Int32).toBitVec).getLsbD i = _
    rw [BitVec.getLsbD_and, h2, Bool.and_true]
  have h3 : i < 32 := by omega
  first
    | (show (((x &&& 255).toBitVec).signExtend 8).getLsbD i = (x.toBitVec.signExtend 8).getLsbD i; rw [BitVec.getLsbD_signExtend, BitVec.getLsbD_signExtend, if_pos h3, if_pos h3, h4])
    | (show (((x &&& 255).toBitVec).setWidth 8).getLsbD i = (x.toBitVec.setWidth 8).getLsbD i; rw [BitVec.getLsbD_setWidth, BitVec.getLsbD_setWidth, h4])
    | (simp [hi, h3, h4]; done)
theorem fa_short_low (x : Int32) : (x &&& 65535).toInt16 = x.toInt16 := by
  apply Int16.toBitVec_inj.1
  apply BitVec.eq_of_getLsbD_eq
  intro i hi
  have h2 : (65535 : Int32).toBitVec.getLsbD i = true := by
    have : ∀ j : Fin 16, (65535 : Int32).toBitVec.getLsbD j.val = true := by decide +kernel
    exact this ⟨i, hi⟩
  have h4 : (x &&& 65535).toBitVec.getLsbD i = x.toBitVec.getLsbD i := by
    show (x.toBitVec &&& (65535 : Int32).toBitVec).getLsbD i = _
    rw [BitVec.getLsbD_and, h2, Bool.and_true]
  have h3 : i < 32 := by omega
  first
    | (show (((x &&& 65535).toBitVec).signExtend 16).getLsbD i = (x.toBitVec.signExtend 16).getLsbD i; rw [BitVec.getLsbD_signExtend, BitVec.getLsbD_signExtend, if_pos h3, if_pos h3, h4])
    | (show (((x &&& 65535).toBitVec).setWidth 16).getLsbD i = (x.toBitVec.setWidth 16).getLsbD i; rw [BitVec.getLsbD_setWidth, BitVec.getLsbD_setWidth, h4])
    | (simp [hi, h3, h4]; done)
/-- a small number is its own byte, its own short -/
theorem fa_byte_small {n : Nat} (h : n < 128) : (nI n).toInt8.toInt32 = nI n := by
  have : ∀ j : Fin 128, (nI j.val).toInt8.toInt32 = nI j.val := by decide +kernel
  exact this ⟨n, h⟩
/-! ===== absolute difference ===== -/
theorem fa_absdiff {a b : Nat} (ha : a < 2 ^ 31) (hb : b < 2 ^ 31) : (if nI a < nI b then nI b - nI a else nI a - nI b) = nI (if a < b then b - a else a - b) := by
  by_cases h : a < b
  · rw [if_pos (nI_lt h hb), if_pos h]
    exact pk_sub (Nat.le_of_lt h)
  · rw [if_neg (nI_nlt (Nat.le_of_not_lt h) ha), if_neg h]
    exact pk_sub (Nat.le_of_not_lt h)
/-! ===== an array behind i stores, a conditional store, a row copied ===== -/
/-- f where k < i, what stood there else -/
def fa_fill {α : Type} (f g : Nat → α) (i : Nat) : Nat → α := fun k => if k < i then f k else g k
theorem fa_fill_0 {α : Type} (f g : Nat → α) : fa_fill f g 0 = g := funext fun k => if_neg (Nat.not_lt_zero k)
theorem fa_fill_in {α : Type} {f g : Nat → α} {i k : Nat} (h : k < i) : fa_fill f g i k = f k := if_pos h
theorem fa_fill_out {α : Type} {f g : Nat → α} {i k : Nat} (h : i ≤ k) : fa_fill f g i k = g k := if_neg (Nat.not_lt.mpr h)
theorem fa_fill_succ (f g : Nat → Int32) (i : Nat) : upd (fa_fill f g i) i (f i) = fa_fill f g (i + 1) := by
  funext k
  by_cases e : k = i
  · subst e
    rw [pk_us]
    exact (if_pos (Nat.lt_succ_self k)).symm
  · rw [pk_un e]
    by_cases h : k < i
    · rw [fa_fill_in h, fa_fill_in (Nat.lt_succ_of_lt h)]
    · rw [fa_fill_out (Nat.le_of_not_lt h), fa_fill_out (by omega)]
/-- a store that changes nothing -/
theorem fa_upd_same {f : Nat → Int32} {i : Nat} {x : Int32} (h : f i = x) : upd f i x = f := by
  funext k
  by_cases e : k = i
  · subst e
    rw [pk_us, h]
  · rw [pk_un e]
/-- a store under a condition, told as one -/
theorem fa_upd_if (c : Prop) [Decidable c] (f : Nat → Int32) (i : Nat) (x : Int32) : (if c then upd f i x else f) = upd f i (if c then x else f i) := by
  by_cases h : c
  · rw [if_pos h, if_pos h]
  · rw [if_neg h, if_neg h, fa_upd_same rfl]
/-- two stores at one place, at two -/
theorem fa_upd_twice (f : Nat → Int32) (i : Nat) (x y : Int32) : upd (upd f i x) i y = upd f i y := by
  funext k
  by_cases e : k = i
  · subst e
    rw [pk_us, pk_us]
  · rw [pk_un e, pk_un e, pk_un e]
theorem fa_upd_swap (f : Nat → Int32) {i j : Nat} (h : i ≠ j) (x y : Int32) : upd (upd f i x) j y = upd (upd f j y) i x := by
  funext k
  by_cases e : k = i
  · subst e
    rw [pk_un h, pk_us, pk_us]
  · by_cases e2 : k = j
    · subst e2
      rw [pk_us, pk_un e, pk_us]
    · rw [pk_un e2, pk_un e, pk_un e, pk_un e2]
/-! ===== the first index with a property; a count ===== -/
/-- the first k < n with p k, n if there is none -/
def fa_first (p : Nat → Bool) : Nat → Nat
  | 0 => 0
  | n + 1 => if fa_first p n < n then fa_first p n else if p n then n else n + 1
theorem fa_first_le (p : Nat → Bool) : ∀ n, fa_first p n ≤ n
  | 0 => Nat.le_refl 0
  | n + 1 => by
    have ih := fa_first_le p n
    unfold fa_first
    split
    · omega
    · split
      · omega
      · omega
theorem fa_first_no (p : Nat → Bool) : ∀ n k, k < fa_first p n → p k = false
  | 0, k, h => absurd h (Nat.not_lt_zero k)
  | n + 1, k, h => by
    have ih := fa_first_no p n
    have hl := fa_first_le p n
    unfold fa_first at h
    split at h
    · exact ih k h
    · rename_i h1
      split at h
      · exact ih k (by omega)
      · rename_i h2
        by_cases e : k = n
        · subst e
          exact Bool.eq_false_iff.mpr h2
        · exact ih k (by omega)
theorem fa_first_yes (p : Nat → Bool) : ∀ n, fa_first p n < n → p (fa_first p n) = true
  | 0, h => absurd h (Nat.not_lt_zero _)
  | n + 1, h => by
    have ih := fa_first_yes p n
    have hl := fa_first_le p n
    unfold fa_first at h ⊢
    split at h
    · rename_i h1
      rw [if_pos h1]
      exact ih h1
    · rename_i h1
      rw [if_neg h1]
      split at h
      · rename_i h2
        rw [if_pos h2]
        exact h2
      · omega
/-- how many k < n have p k -/
def fa_cnt (p : Nat → Bool) : Nat → Nat
  | 0 => 0
  | n + 1 => fa_cnt p n + if p n then 1 else 0
theorem fa_cnt_le (p : Nat → Bool) : ∀ n, fa_cnt p n ≤ n
  | 0 => Nat.le_refl 0
  | n + 1 => by
    have ih := fa_cnt_le p n
    unfold fa_cnt
    split
    · omega
    · omega
theorem fa_cnt_yes {p : Nat → Bool} {n : Nat} (h : p n = true) : fa_cnt p (n + 1) = fa_cnt p n + 1 := by rw [fa_cnt, if_pos h]
theorem fa_cnt_no {p : Nat → Bool} {n : Nat} (h : p n = false) : fa_cnt p (n + 1) = fa_cnt p n := by rw [fa_cnt, if_neg (by rw [h]; decide)]; rfl
theorem fa_cnt_cong {p q : Nat → Bool} : ∀ {n : Nat}, (∀ k, k < n → p k = q k) → fa_cnt p n = fa_cnt q n
  | 0, _ => rfl
  | n + 1, h => by rw [fa_cnt, fa_cnt, fa_cnt_cong (fun k hk => h k (Nat.lt_succ_of_lt hk)), h n (Nat.lt_succ_self n)]
/-! ===== an answer carried into a post; a branch on a boolean answer ===== -/
theorem fa_post {α : Type} {P : α → Prop} {x y : α} (h : x = y) (hp : P y) : P x := h ▸ hp
theorem fa_post2 {α β : Type} {P : α → β → Prop} {x y : α} {u v : β} (h : x = y) (h2 : u = v) (hp : P y v) : P x u := h ▸ h2 ▸ hp
theorem fa_bool {r : Int32} {b : Bool} (h : r = if b then 1 else 0) : (r = 0 ↔ b = false) ∧ (¬ r = 0 ↔ b = true) := by
  subst h
  cases b
  · exact ⟨⟨fun _ => rfl, fun _ => rfl⟩, ⟨fun h => absurd rfl h, fun h => absurd h (by decide)⟩⟩
  · exact ⟨⟨fun h => absurd h (by decide), fun h => absurd h (by decide)⟩, ⟨fun _ => rfl, fun _ => by decide⟩⟩
/-- a boolean's narrowing changes nothing -/
theorem fa_bool_and {r : Int32} (h : r = 0 ∨ r = 1) : r &&& 1 = r := by
  rcases h with rfl | rfl
  · decide
  · decide
theorem fa_bool_prop {c : Prop} [Decidable c] {r : Int32} (h : r = if c then 1 else 0) : (r = 0 ↔ ¬ c) ∧ (¬ r = 0 ↔ c) := by
  subst h
  by_cases hc : c
  · rw [if_pos hc]
    exact ⟨⟨fun h => absurd h (by decide), fun h => absurd hc h⟩, ⟨fun _ => hc, fun _ => by decide⟩⟩
  · rw [if_neg hc]
    exact ⟨⟨fun _ => hc, fun _ => rfl⟩, ⟨fun h => absurd rfl h, fun h => absurd h hc⟩⟩
/-! rows on bits, shifts and unsigned numbers, to paste: each family out of a closed proof of our own, whole with what it rests on; each by itself clean at Lean in its own claim (generation 39, form 5). Take a family whole -/
/-! ===== Int32 by its bits: bt x i ===== -/
def bt (x : Int32) (i : Nat) : Bool := x.toBitVec.getLsbD i
theorem b_ext {x y : Int32} (h : ∀ i, i < 32 → bt x i = bt y i) : x = y := Int32.toBitVec_inj.mp (BitVec.eq_of_getLsbD_eq (fun i hi => h i hi))
theorem b_or (x y : Int32) (i : Nat) : bt (x ||| y) i = (bt x i || bt y i) := by unfold bt; rw [Int32.toBitVec_or, BitVec.getLsbD_or]
theorem b_and (x y : Int32) (i : Nat) : bt (x &&& y) i = (bt x i && bt y i) := by unfold bt; rw [Int32.toBitVec_and, BitVec.getLsbD_and]
theorem b_xor (x y : Int32) (i : Nat) : bt (x ^^^ y) i = (bt x i ^^ bt y i) := by unfold bt; rw [Int32.toBitVec_xor, BitVec.getLsbD_xor]
theorem b_big {x : Int32} {i : Nat} (h : 32 ≤ i) : bt x i = false := BitVec.getLsbD_of_ge _ _ h
theorem b_255 (i : Nat) : bt 255 i = decide (i < 8) := by
  rcases Nat.lt_or_ge i 32 with h | h
  · exact (by decide +kernel : ∀ i, i < 32 → bt 255 i = decide (i < 8)) i h
  · rw [b_big h, decide_eq_false (by omega)]
theorem b_65535 (i : Nat) : bt 65535 i = decide (i < 16) := by
  rcases Nat.lt_or_ge i 32 with h | h
  · exact (by decide +kernel : ∀ i, i < 32 → bt 65535 i = decide (i < 16)) i h
  · rw [b_big h, decide_eq_false (by omega)]
theorem b_m1 : ∀ i, i < 32 → bt (-1) i = true := by decide +kernel
theorem b_0 (i : Nat) : bt 0 i = false := BitVec.getLsbD_zero
theorem s_l : ∀ n, n < 32 → ((nI n &&& 31).toBitVec.smod 32).toNat = n := by decide +kernel
theorem s_u : ∀ n, n < 32 → (((nI n).toUInt32 &&& Int32.toUInt32 31).toBitVec % 32).toNat = n := by decide +kernel
theorem b_shl (n : Nat) (hn : n < 32) (x : Int32) {i : Nat} (hi : i < 32) : bt (x <<< (nI n &&& 31)) i = (decide (n ≤ i) && bt x (i - n)) := by
  unfold bt
  rw [Int32.toBitVec_shiftLeft]
  show (x.toBitVec <<< ((nI n &&& 31).toBitVec.smod 32).toNat).getLsbD i = _
  rw [s_l n hn, BitVec.getLsbD_shiftLeft]
  rcases Nat.lt_or_ge i n with h | h
  · simp [h, Nat.not_le.mpr h]
  · simp [hi, h, Nat.not_lt.mpr h]
theorem b_ushr (n : Nat) (hn : n < 32) (x : Int32) (i : Nat) : bt ((x.toUInt32 >>> ((nI n).toUInt32 &&& Int32.toUInt32 31)).toInt32) i = bt x (n + i) := by
  show (x.toUInt32 >>> ((nI n).toUInt32 &&& Int32.toUInt32 31)).toBitVec.getLsbD i = x.toUInt32.toBitVec.getLsbD (n + i)
  rw [UInt32.toBitVec_shiftRight]
  show (x.toUInt32.toBitVec >>> (((nI n).toUInt32 &&& Int32.toUInt32 31).toBitVec % 32).toNat).getLsbD i = _
  rw [s_u n hn, BitVec.getLsbD_ushiftRight]
theorem b_sshr (n : Nat) (hn : n < 32) (x : Int32) {i : Nat} (hi : i < 32) : bt (x >>> (nI n &&& 31)) i = if n + i < 32 then bt x (n + i) else bt x 31 := by
  unfold bt
  rw [Int32.toBitVec_shiftRight]
  show (x.toBitVec.sshiftRight ((nI n &&& 31).toBitVec.smod 32).toNat).getLsbD i = _
  rw [s_l n hn, BitVec.getLsbD_sshiftRight, BitVec.msb_eq_getLsbD_last]
  simp [hi]
theorem b_shl8 (x : Int32) {i : Nat} (hi : i < 32) : bt (x <<< ((8 : Int32) &&& 31)) i = (decide (8 ≤ i) && bt x (i - 8)) := b_shl 8 (by omega) x hi
theorem b_shl16 (x : Int32) {i : Nat} (hi : i < 32) : bt (x <<< ((16 : Int32) &&& 31)) i = (decide (16 ≤ i) && bt x (i - 16)) := b_shl 16 (by omega) x hi
theorem b_shl24 (x : Int32) {i : Nat} (hi : i < 32) : bt (x <<< ((24 : Int32) &&& 31)) i = (decide (24 ≤ i) && bt x (i - 24)) := b_shl 24 (by omega) x hi
theorem b_sshr8 (x : Int32) {i : Nat} (hi : i < 32) : bt (x >>> ((8 : Int32) &&& 31)) i = if 8 + i < 32 then bt x (8 + i) else bt x 31 := b_sshr 8 (by omega) x hi
/-! ===== nI under and, xor, >>>, one bit, 65535 ===== -/
theorem nx_and (a b : Nat) : nI a &&& nI b = nI (a &&& b) := by
  apply Int32.toBitVec_inj.1
  show BitVec.ofNat 32 a &&& BitVec.ofNat 32 b = BitVec.ofNat 32 (a &&& b)
  apply BitVec.eq_of_getLsbD_eq
  intro i hi
  simp [hi]
theorem nx_xor (a b : Nat) : nI a ^^^ nI b = nI (a ^^^ b) := by
  apply Int32.toBitVec_inj.1
  show BitVec.ofNat 32 a ^^^ BitVec.ofNat 32 b = BitVec.ofNat 32 (a ^^^ b)
  apply BitVec.eq_of_getLsbD_eq
  intro i hi
  simp [hi]
theorem nx_cnt : ∀ j : Fin 32, (UInt32.ofNat j.val &&& Int32.toUInt32 31).toNat % 32 = j.val := by decide +kernel
theorem nx_ush {k j : Nat} (hk : k < 65536) (hj : j < 32) : ((nI k).toUInt32 >>> ((nI j).toUInt32 &&& Int32.toUInt32 31)).toInt32 = nI (k >>> j) := by
  have hs : k >>> j ≤ k := by
    rw [Nat.shiftRight_eq_div_pow]
    exact Nat.div_le_self _ _
  have e2 : UInt32.ofNat k >>> (UInt32.ofNat j &&& Int32.toUInt32 31) = UInt32.ofNat (k >>> j) := by
    apply UInt32.toNat_inj.1
    have h1 : (UInt32.ofNat k).toNat = k := Nat.mod_eq_of_lt (by omega)
    have h2 : (UInt32.ofNat (k >>> j)).toNat = k >>> j := Nat.mod_eq_of_lt (by omega)
    rw [UInt32.toNat_shiftRight, nx_cnt ⟨j, hj⟩, h1, h2]
  show (UInt32.ofNat k >>> (UInt32.ofNat j &&& Int32.toUInt32 31)).toInt32 = _
  rw [e2]
  rfl
theorem nx_bit {k j : Nat} (hk : k < 65536) (hj : j < 16) : (((nI k).toUInt32 >>> ((nI j).toUInt32 &&& Int32.toUInt32 31)).toInt32 &&& 1) = 0 ↔ k.testBit j = false := by
  rw [nx_ush hk (by omega)]
  show nI (k >>> j) &&& nI 1 = 0 ↔ _
  rw [nx_and, Nat.and_one_is_mod, ← nI_0, nI_eq (by omega) (by omega), Nat.testBit_eq_decide_div_mod_eq, Nat.shiftRight_eq_div_pow, decide_eq_false_iff_not]
  generalize k / 2 ^ j = z
  omega
theorem nx_mod (k : Nat) : nI k &&& 65535 = nI (k % 65536) := by
  show nI k &&& nI 65535 = _
  rw [nx_and, show (65535 : Nat) = 2 ^ 16 - 1 from rfl, Nat.and_two_pow_sub_one_eq_mod]
theorem nx_m16 {k : Nat} (h : k < 65536) : nI k &&& 65535 = nI k := by rw [nx_mod, Nat.mod_eq_of_lt h]
theorem nx_mask (x : Int32) : ∃ k, k < 65536 ∧ x &&& 65535 = nI k := by
  have e : x = nI x.toBitVec.toNat := by
    apply Int32.toBitVec_inj.1
    show x.toBitVec = BitVec.ofNat 32 x.toBitVec.toNat
    simp
  refine ⟨x.toBitVec.toNat % 65536, Nat.mod_lt _ (by omega), ?_⟩
  rw [← nx_mod, ← e]
/-! ===== Int32 as a set of bits: test, set ===== -/
def nf_M (m : Int32) : Nat := 4294967296 - m.toBitVec.toNat
theorem nf_sh : ∀ l, l < 32 → ((1 : Int32) <<< (nI l &&& 31)).toBitVec = BitVec.twoPow 32 l := by decide +kernel
theorem nf_sl : ∀ l, l < 32 → (((nI l).toUInt32 &&& Int32.toUInt32 31).toBitVec % 32).toNat = l := by decide +kernel
theorem nf_tp : ∀ l, l < 32 → BitVec.twoPow 32 l ≠ 0#32 := by decide +kernel
theorem nf_bit (m : Int32) (l : Nat) (hl : l < 32) : ((m.toUInt32 >>> ((nI l).toUInt32 &&& Int32.toUInt32 31)).toInt32 &&& 1) = 0 ↔ (m &&& ((1 : Int32) <<< (nI l &&& 31))) = 0 := by
  have e : ((m.toUInt32 >>> ((nI l).toUInt32 &&& Int32.toUInt32 31)).toInt32).toBitVec = m.toBitVec >>> l := by
    show m.toBitVec >>> (((nI l).toUInt32 &&& Int32.toUInt32 31).toBitVec % 32) = m.toBitVec >>> l
    rw [BitVec.ushiftRight_eq', nf_sl l hl]
  rw [← Int32.toBitVec_inj, ← Int32.toBitVec_inj, Int32.toBitVec_and, Int32.toBitVec_and, nf_sh l hl, e, BitVec.and_twoPow]
  show (m.toBitVec >>> l &&& 1#32) = 0#32 ↔ _ = 0#32
  rw [BitVec.and_one_eq_setWidth_ofBool_getLsbD, BitVec.getLsbD_ushiftRight, Nat.add_zero]
  cases hb : m.toBitVec.getLsbD l
  · exact ⟨fun _ => by simp, fun _ => by decide⟩
  · exact ⟨fun z => absurd z (by decide), fun z => absurd ((if_pos rfl).symm.trans z) (nf_tp l hl)⟩
theorem nf_gr (m k : Int32) (h : m &&& k = 0) (hk : k ≠ 0) : nf_M (m ||| k) < nf_M m := by
  have hm := m.toBitVec.isLt
  have hm' := (m ||| k).toBitVec.isLt
  have h1 : m.toBitVec.toNat ≤ (m ||| k).toBitVec.toNat := by
    rw [Int32.toBitVec_or, BitVec.toNat_or]
    exact Nat.left_le_or
  have h2 : m.toBitVec.toNat ≠ (m ||| k).toBitVec.toNat := by
    intro e
    have e2 : m = m ||| k := Int32.toBitVec_inj.mp (BitVec.eq_of_toNat_eq e)
    apply hk
    apply Int32.toBitVec_inj.mp
    show k.toBitVec = 0#32
    apply BitVec.eq_of_getLsbD_eq
    intro i hi
    have a : m.toBitVec.getLsbD i = (m.toBitVec.getLsbD i || k.toBitVec.getLsbD i) := by rw [← BitVec.getLsbD_or, ← Int32.toBitVec_or, ← e2]
    have b : (m.toBitVec.getLsbD i && k.toBitVec.getLsbD i) = false := by
      rw [← BitVec.getLsbD_and, ← Int32.toBitVec_and, h]
      exact BitVec.getLsbD_zero
    rw [BitVec.getLsbD_zero]
    revert a b
    cases m.toBitVec.getLsbD i <;> cases k.toBitVec.getLsbD i <;> simp
  unfold nf_M
  omega
/-! ===== a byte read unsigned ===== -/
theorem bp_b (x : Int32) : x.toInt8.toInt32 &&& 255 = x &&& 255 := by
  apply Int32.toBitVec_inj.mp
  rw [Int32.toBitVec_and, Int32.toBitVec_and, Int8.toBitVec_toInt32, Int32.toBitVec_toInt8]
  apply BitVec.eq_of_getLsbD_eq
  intro i hi
  rw [BitVec.getLsbD_and, BitVec.getLsbD_and]
  have hm : ∀ i < 32, 8 ≤ i → (255 : Int32).toBitVec.getLsbD i = false := by decide
  rcases Nat.lt_or_ge i 8 with z | z
  · rw [BitVec.getLsbD_signExtend, BitVec.getLsbD_signExtend, if_pos z, if_pos hi]
    simp only [z, hi, decide_true, Bool.true_and]
  · rw [hm i hi z]; simp
/-! ===== the char cast and 65535 ===== -/
/-! ===== Int64 as a set of bits: test, set, clear ===== -/
theorem ts_nf {x : Bool} (h : ¬ x = false) : x = true := by cases x <;> first | rfl | exact absurd rfl h
theorem ts_nt {x : Bool} (h : ¬ x = true) : x = false := by cases x <;> first | rfl | exact absurd rfl h
theorem ts_bit {w : Int64} {s : UInt64} {j : Nat} (hj : j < 64) (hs : s.toNat = j) : ((w.toUInt64 >>> s).toInt64 &&& 1) = 0 ↔ w.toBitVec.getLsbD j = false := by
  have e : (w.toUInt64 >>> s).toInt64.toBitVec = w.toBitVec >>> j := by
    apply BitVec.eq_of_toNat_eq
    show (w.toUInt64 >>> s).toNat = _
    rw [UInt64.toNat_shiftRight, hs, Nat.mod_eq_of_lt hj, BitVec.toNat_ushiftRight]
    rfl
  rw [← Int64.toBitVec_inj, Int64.toBitVec_and, e]
  show w.toBitVec >>> j &&& 1#64 = 0#64 ↔ _
  constructor
  · intro h
    have t := congrArg (fun x => x.getLsbD 0) h
    simpa using t
  · intro h
    apply BitVec.eq_of_getLsbD_eq
    intro i hi
    cases i with
    | zero => simp [h]
    | succ i => simp
theorem ts_or {w m : Int64} {j : Nat} (hj : j < 64) (hm : m.toBitVec = BitVec.twoPow 64 j) : (w ||| m) = w ↔ w.toBitVec.getLsbD j = true := by
  rw [← Int64.toBitVec_inj, Int64.toBitVec_or, hm]
  constructor
  · intro h
    have t := congrArg (fun x => x.getLsbD j) h
    simp only [BitVec.getLsbD_or, BitVec.getLsbD_twoPow] at t
    simpa [hj] using t.symm
  · intro h
    apply BitVec.eq_of_getLsbD_eq
    intro i hi
    rw [BitVec.getLsbD_or, BitVec.getLsbD_twoPow]
    by_cases e : j = i
    · subst e; rw [h, Bool.true_or]
    · simp [e]
theorem ts_and {w m : Int64} {j : Nat} (hj : j < 64) (hm : m.toBitVec = BitVec.twoPow 64 j) : (w &&& (m ^^^ (-1))) = w ↔ w.toBitVec.getLsbD j = false := by
  have ha : (-1 : Int64).toBitVec = BitVec.allOnes 64 := by decide
  rw [← Int64.toBitVec_inj, Int64.toBitVec_and, Int64.toBitVec_xor, hm, ha]
  constructor
  · intro h
    have t := congrArg (fun x => x.getLsbD j) h
    simp only [BitVec.getLsbD_and, BitVec.getLsbD_xor, BitVec.getLsbD_twoPow, BitVec.getLsbD_allOnes] at t
    simpa [hj] using t.symm
  · intro h
    apply BitVec.eq_of_getLsbD_eq
    intro i hi
    rw [BitVec.getLsbD_and, BitVec.getLsbD_xor, BitVec.getLsbD_twoPow, BitVec.getLsbD_allOnes]
    by_cases e : j = i
    · subst e; rw [h, Bool.false_and]
    · simp [e, hi]
/-! ===== lN n to 2^64: shifts, and, or, masks, one bit ===== -/
theorem wb_tb (n : Nat) : (lN n).toBitVec = BitVec.ofNat 64 n := rfl
theorem wb_inj {a b : Int64} (h : a.toBitVec = b.toBitVec) : a = b := Int64.toBitVec_inj.mp h
theorem wb_tn {n : Nat} (h : n < 2 ^ 64) : (lN n).toBitVec.toNat = n := by rw [wb_tb, BitVec.toNat_ofNat, Nat.mod_eq_of_lt h]
theorem wb_of (x : Int64) : ∃ n, n < 2 ^ 64 ∧ x = lN n := ⟨x.toBitVec.toNat, x.toBitVec.isLt, wb_inj (by rw [wb_tb]; simp)⟩
theorem wb_of32 (x : Int32) : ∃ n, n < 2 ^ 32 ∧ x = nI n := ⟨x.toBitVec.toNat, x.toBitVec.isLt, Int32.toBitVec_inj.mp (by show _ = BitVec.ofNat 32 _; simp)⟩
theorem wb_c : ∀ k, k < 64 → ((nI k).toInt64 &&& 63) = lN k := by decide +kernel
theorem wb_cu : ∀ k, k < 64 → ((nI k).toInt64.toUInt64 &&& Int64.toUInt64 63) = UInt64.ofNat k := by decide +kernel
theorem wb_sm : ∀ k, k < 64 → (BitVec.ofNat 64 k).smod 64 = BitVec.ofNat 64 k := by decide +kernel
theorem wb_pw {a b : Nat} (h : a ≤ b) : 2 ^ b = 2 ^ a * 2 ^ (b - a) := by rw [← Nat.pow_add]; congr 1; omega
theorem wb_lt2 {a b : Nat} (h : a < b) : 2 ^ a < 2 ^ b := Nat.pow_lt_pow_right (by decide) h
theorem wb_mod (n : Nat) : lN n = lN (n % 2 ^ 64) := wb_inj (by rw [wb_tb, wb_tb]; apply BitVec.eq_of_toNat_eq; rw [BitVec.toNat_ofNat, BitVec.toNat_ofNat, Nat.mod_mod])
theorem wb_shr {n k : Nat} (hn : n < 2 ^ 64) (hk : k < 64) : ((lN n).toUInt64 >>> ((nI k).toInt64.toUInt64 &&& Int64.toUInt64 63)).toInt64 = lN (n / 2 ^ k) := by
  rw [wb_cu k hk]
  apply wb_inj
  apply BitVec.eq_of_toNat_eq
  show ((lN n).toUInt64 >>> UInt64.ofNat k).toNat = (BitVec.ofNat 64 _).toNat
  have h1 : (UInt64.ofNat k).toNat = k := by
    show (BitVec.ofNat 64 k).toNat = k
    rw [BitVec.toNat_ofNat, Nat.mod_eq_of_lt (by omega)]
  have h2 : (lN n).toUInt64.toNat = n := wb_tn hn
  rw [UInt64.toNat_shiftRight, h1, h2, Nat.mod_eq_of_lt hk, Nat.shiftRight_eq_div_pow, BitVec.toNat_ofNat, Nat.mod_eq_of_lt (Nat.lt_of_le_of_lt (Nat.div_le_self _ _) hn)]
theorem wb_shl (n : Nat) {k : Nat} (hk : k < 64) : lN n <<< ((nI k).toInt64 &&& 63) = lN (n * 2 ^ k) := by
  rw [wb_c k hk]
  apply wb_inj
  rw [Int64.toBitVec_shiftLeft, wb_tb, wb_tb, wb_tb, wb_sm k hk]
  apply BitVec.eq_of_toNat_eq
  rw [BitVec.shiftLeft_eq', BitVec.toNat_shiftLeft, BitVec.toNat_ofNat, BitVec.toNat_ofNat, BitVec.toNat_ofNat, Nat.mod_eq_of_lt (show k < 2 ^ 64 by omega), Nat.shiftLeft_eq, Nat.mul_mod, Nat.mod_mod, ← Nat.mul_mod]
theorem wb_and {a b : Nat} (ha : a < 2 ^ 64) (hb : b < 2 ^ 64) : lN a &&& lN b = lN (a &&& b) := by
  apply wb_inj
  rw [Int64.toBitVec_and, wb_tb, wb_tb, wb_tb]
  apply BitVec.eq_of_toNat_eq
  rw [BitVec.toNat_and, BitVec.toNat_ofNat, BitVec.toNat_ofNat, BitVec.toNat_ofNat, Nat.mod_eq_of_lt ha, Nat.mod_eq_of_lt hb, Nat.mod_eq_of_lt (Nat.and_lt_two_pow _ hb)]
theorem wb_or {a b : Nat} (ha : a < 2 ^ 64) (hb : b < 2 ^ 64) : lN a ||| lN b = lN (a ||| b) := by
  apply wb_inj
  rw [Int64.toBitVec_or, wb_tb, wb_tb, wb_tb]
  apply BitVec.eq_of_toNat_eq
  rw [BitVec.toNat_or, BitVec.toNat_ofNat, BitVec.toNat_ofNat, BitVec.toNat_ofNat, Nat.mod_eq_of_lt ha, Nat.mod_eq_of_lt hb, Nat.mod_eq_of_lt (Nat.or_lt_two_pow ha hb)]
theorem wb_mask {n k : Nat} (hn : n < 2 ^ 64) (hk : k < 64) : lN n &&& lN (2 ^ k - 1) = lN (n % 2 ^ k) := by
  rw [wb_and hn (by have := wb_lt2 hk; omega), Nat.and_two_pow_sub_one_eq_mod]
theorem wb_a1 {n : Nat} (hn : n < 2 ^ 64) : lN n &&& 1 = lN (n % 2) := wb_mask (k := 1) hn (by decide)
theorem wb_bit {n k : Nat} (hn : n < 2 ^ 64) (hk : k < 64) : ((lN n).toUInt64 >>> ((nI k).toInt64.toUInt64 &&& Int64.toUInt64 63)).toInt64 &&& 1 = lN (n / 2 ^ k % 2) := by
  rw [wb_shr hn hk, wb_a1 (Nat.lt_of_le_of_lt (Nat.div_le_self _ _) hn)]
theorem wb_xor {q k : Nat} (hk : k < 63) (h : 2 ^ k ≤ q) (h2 : q < 2 ^ (k + 1)) : lN q ^^^ lN (2 ^ k) = lN (q - 2 ^ k) := by
  obtain ⟨r, rfl⟩ : ∃ r, q = 2 ^ k + r := ⟨q - 2 ^ k, by omega⟩
  have hr : r < 2 ^ k := by rw [Nat.pow_succ] at h2; omega
  have hx : (2 ^ k + r) ^^^ 2 ^ k = r := by
    apply Nat.eq_of_testBit_eq
    intro i
    rw [Nat.testBit_xor, Nat.testBit_two_pow]
    rcases Nat.lt_trichotomy i k with h | h | h
    · rw [Nat.testBit_two_pow_add_gt h]
      simp [show ¬ k = i by omega]
    · subst h
      rw [Nat.testBit_two_pow_add_eq]
      simp
    · have a1 : 2 ^ (k + 1) ≤ 2 ^ i := Nat.pow_le_pow_right (by decide) h
      rw [Nat.testBit_lt_two_pow (show 2 ^ k + r < 2 ^ i by omega), Nat.testBit_lt_two_pow (show r < 2 ^ i by omega)]
      simp [show ¬ k = i by omega]
  have b1 := wb_lt2 (show k + 1 < 64 by omega)
  have b2 := wb_lt2 (show k < 64 by omega)
  apply wb_inj
  rw [Int64.toBitVec_xor, wb_tb, wb_tb, wb_tb]
  apply BitVec.eq_of_toNat_eq
  rw [BitVec.toNat_xor, BitVec.toNat_ofNat, BitVec.toNat_ofNat, BitVec.toNat_ofNat, Nat.mod_eq_of_lt (by omega : 2 ^ k + r < 2 ^ 64), Nat.mod_eq_of_lt b2, hx, Nat.add_sub_cancel_left, Nat.mod_eq_of_lt (by omega)]
/-! ===== lN: masks, 'or' of parts that don't overlap is a sum ===== -/
theorem u_tn {n : Nat} (h : n < 2 ^ 64) : (UInt64.ofNat n).toNat = n := Nat.mod_eq_of_lt h
theorem g_and {a b c : Nat} (ha : a < 2 ^ 64) (hb : b < 2 ^ 64) (hc : a &&& b = c) : lN a &&& lN b = lN c := by
  subst hc
  have h : UInt64.ofNat a &&& UInt64.ofNat b = UInt64.ofNat (a &&& b) := UInt64.toNat_inj.mp (by rw [UInt64.toNat_and, u_tn ha, u_tn hb, u_tn (Nat.and_lt_two_pow a hb)])
  have h2 := congrArg UInt64.toInt64 h
  exact h2
theorem g_and1 {a : Nat} (ha : a < 2 ^ 64) : lN a &&& 1 = lN (a % 2) := g_and (b := 1) ha (by decide) (Nat.and_two_pow_sub_one_eq_mod a 1)
theorem g_mask {a s p : Nat} (hp : 2 ^ s = p) (hs : s < 64) (ha : a < 2 ^ 64) : lN a &&& lN (p - 1) = lN (a % p) := by
  subst hp
  have := Nat.pow_lt_pow_right (show 1 < 2 by decide) hs
  exact g_and ha (by omega) (Nat.and_two_pow_sub_one_eq_mod a s)
theorem g_or {k p a b : Nat} (hp : 2 ^ k = p) (ha : a < p) (h : b * p + a < 2 ^ 64) : lN (b * p) ||| lN a = lN (b * p + a) := by
  subst hp
  have h1 : b * 2 ^ k ||| a = b * 2 ^ k + a := by rw [← Nat.shiftLeft_eq, Nat.shiftLeft_add_eq_or_of_lt ha]
  have h3 : UInt64.ofNat (b * 2 ^ k) ||| UInt64.ofNat a = UInt64.ofNat (b * 2 ^ k + a) := UInt64.toNat_inj.mp (by rw [UInt64.toNat_or, u_tn (by omega), u_tn (by omega), u_tn h, h1])
  have h2 := congrArg UInt64.toInt64 h3
  exact h2
theorem g_or' {k p a b : Nat} (hp : 2 ^ k = p) (ha : a < p) (h : a + b * p < 2 ^ 64) : lN a ||| lN (b * p) = lN (a + b * p) := by
  rw [Int64.or_comm, g_or hp ha (by omega), Nat.add_comm]
theorem g_ushr {a k p : Nat} {y : UInt64} (hy : y = UInt64.ofNat k) (hk : k < 64) (hp : 2 ^ k = p) (ha : a < 2 ^ 64) : ((lN a).toUInt64 >>> y).toInt64 = lN (a / p) := by
  subst hy hp
  have h : UInt64.ofNat a >>> UInt64.ofNat k = UInt64.ofNat (a / 2 ^ k) := UInt64.toNat_inj.mp (by rw [UInt64.toNat_shiftRight, u_tn ha, u_tn (by omega), u_tn (Nat.lt_of_le_of_lt (Nat.div_le_self _ _) ha), Nat.mod_eq_of_lt hk, Nat.shiftRight_eq_div_pow])
  have h2 := congrArg UInt64.toInt64 h
  exact h2
theorem g_shl {a k p : Nat} {y : Int64} (hy : y.toBitVec.smod 64 = BitVec.ofNat 64 k) (hk : k < 64) (hp : 2 ^ k = p) (ha : a < 2 ^ 64) : lN a <<< y = lN (a * p) := by
  subst hp
  apply Int64.toBitVec_inj.mp
  rw [Int64.toBitVec_shiftLeft, hy]
  apply BitVec.eq_of_toNat_eq
  have hb : (lN a).toBitVec.toNat = a := Nat.mod_eq_of_lt ha
  have hk' : (BitVec.ofNat 64 k).toNat = k := Nat.mod_eq_of_lt (by omega)
  have h : ((lN a).toBitVec <<< BitVec.ofNat 64 k).toNat = (a * 2 ^ k) % 2 ^ 64 := by simp only [BitVec.shiftLeft_eq', BitVec.toNat_shiftLeft, hb, hk', Nat.shiftLeft_eq]
  exact h
/-! ===== lN to 2^62 under >> and >>> ===== -/
theorem pf_lI {a : Nat} (h : a < 2 ^ 63) : (lN a).toInt = (a : Int) := lg_ofNat_toInt h
theorem pf_shr {a d : Nat} {D : Int64} (hD : (D.toBitVec.smod 64).toNat = d) (h : a < 2 ^ 62) : lN a >>> D = lN (a / 2 ^ d) := by
  have hd : a / 2 ^ d ≤ a := Nat.div_le_self _ _
  apply Int64.toInt_inj.mp
  have e : (lN a >>> D).toInt = (lN a).toInt >>> d := by
    rw [← hD]
    exact BitVec.toInt_sshiftRight ..
  rw [e, Int.shiftRight_eq_div_pow, pf_lI (by omega), pf_lI (by omega)]
  rfl
theorem pf_ushr {a d : Nat} {D : UInt64} (hD : D.toNat % 64 = d) (h : a < 2 ^ 62) : ((lN a).toUInt64 >>> D).toInt64 = lN (a / 2 ^ d) := by
  have hd : a / 2 ^ d ≤ a := Nat.div_le_self _ _
  have e : (lN a).toUInt64 >>> D = UInt64.ofNat (a / 2 ^ d) := UInt64.toNat_inj.mp (by
    rw [UInt64.toNat_shiftRight, hD, Nat.shiftRight_eq_div_pow, UInt64.toNat_ofNat']
    show (UInt64.ofNat a).toNat / 2 ^ d = _
    rw [UInt64.toNat_ofNat', Nat.mod_eq_of_lt (by omega), Nat.mod_eq_of_lt (by omega)])
  rw [e]
  rfl
theorem pf_andw (x : Int64) : ∃ m, m < 2 ^ 32 ∧ x &&& 4294967295 = lN m := ⟨x.toBitVec.toNat % 2 ^ 32, Nat.mod_lt _ (by decide), Int64.toBitVec_inj.mp (BitVec.eq_of_toNat_eq (by
  show (x.toBitVec &&& 4294967295#64).toNat = (BitVec.ofNat 64 (x.toBitVec.toNat % 2 ^ 32)).toNat
  rw [BitVec.toNat_and, show (4294967295#64).toNat = 2 ^ 32 - 1 from by decide, Nat.and_two_pow_sub_one_eq_mod, BitVec.toNat_ofNat]
  omega))⟩
/-! ===== Int64 as an unsigned number: uN x ===== -/
def uN (x : Int64) : Nat := x.toUInt64.toNat
theorem uN_lt (x : Int64) : uN x < 18446744073709551616 := x.toUInt64.toNat_lt
theorem uN_inj {x y : Int64} (h : uN x = uN y) : x = y := congrArg UInt64.toInt64 (UInt64.toNat_inj.mp h)
theorem uN_add (x y : Int64) : uN (x + y) = (uN x + uN y) % 18446744073709551616 := by
  show (x.toUInt64 + y.toUInt64).toNat = _
  exact UInt64.toNat_add _ _
theorem uN_mul (x y : Int64) : uN (x * y) = (uN x * uN y) % 18446744073709551616 := by
  show (x.toUInt64 * y.toUInt64).toNat = _
  exact UInt64.toNat_mul _ _
theorem uN_shl (x : Int64) : uN (x <<< ((1 : Int32).toInt64 &&& 63)) = (2 * uN x) % 18446744073709551616 := by
  have h : (((1 : Int32).toInt64 &&& 63).toBitVec.smod 64).toNat = 1 := by decide
  show (x.toBitVec <<< (((1 : Int32).toInt64 &&& 63).toBitVec.smod 64).toNat).toNat = _
  rw [h, BitVec.toNat_shiftLeft, Nat.shiftLeft_eq, Nat.mul_comm]
  rfl
theorem uN_shr (x : Int64) (s : UInt64) : uN (x.toUInt64 >>> s).toInt64 = uN x / 2 ^ (s.toNat % 64) := by
  show (x.toUInt64 >>> s).toNat = _
  rw [UInt64.toNat_shiftRight, Nat.shiftRight_eq_div_pow]
  rfl
theorem uN_s32 (x : Int64) : uN (x.toUInt64 >>> ((32 : Int32).toInt64.toUInt64 &&& Int64.toUInt64 63)).toInt64 = uN x / 4294967296 := by
  have h : ((32 : Int32).toInt64.toUInt64 &&& Int64.toUInt64 63).toNat % 64 = 32 := by decide
  rw [uN_shr, h]
theorem uN_s63 (x : Int64) : uN (x.toUInt64 >>> ((63 : Int32).toInt64.toUInt64 &&& Int64.toUInt64 63)).toInt64 = uN x / 9223372036854775808 := by
  have h : ((63 : Int32).toInt64.toUInt64 &&& Int64.toUInt64 63).toNat % 64 = 63 := by decide
  rw [uN_shr, h]
theorem uN_lo (x : Int64) : uN (x &&& 4294967295) = uN x % 4294967296 := by
  show (x.toUInt64 &&& Int64.toUInt64 4294967295).toNat = _
  rw [UInt64.toNat_and]
  exact Nat.and_two_pow_sub_one_eq_mod _ 32
theorem uN_bit (x : Int64) : (x &&& 1) = 0 ↔ uN x % 2 = 0 := by
  have h : uN (x &&& 1) = uN x % 2 := by
    show (x.toUInt64 &&& Int64.toUInt64 1).toNat = _
    rw [UInt64.toNat_and]
    exact Nat.and_two_pow_sub_one_eq_mod _ 1
  rw [← h]
  exact ⟨fun z => by rw [z]; rfl, fun z => uN_inj (z.trans rfl)⟩
theorem uN_or {x y : Int64} (hy : uN y < 2) : uN ((x <<< ((1 : Int32).toInt64 &&& 63)) ||| y) = (2 * uN x) % 18446744073709551616 + uN y := by
  have h1 : uN ((x <<< ((1 : Int32).toInt64 &&& 63)) ||| y) = uN (x <<< ((1 : Int32).toInt64 &&& 63)) ||| uN y := UInt64.toNat_or _ _
  have h2 : (2 * uN x) % 18446744073709551616 = 2 ^ 1 * (uN x % 9223372036854775808) := by omega
  rw [h1, uN_shl, h2]
  exact (Nat.two_pow_add_eq_or_of_lt (i := 1) hy _).symm
theorem nat_xor {a : Nat} (h : a < 18446744073709551616) : a ^^^ 2 ^ 63 = (a + 9223372036854775808) % 18446744073709551616 := by
  have h1 : (a ^^^ 2 ^ 63) % 2 ^ 63 = a % 2 ^ 63 := by rw [Nat.xor_mod_two_pow, Nat.mod_self, Nat.xor_zero]
  have h2 : (a ^^^ 2 ^ 63) / 2 ^ 63 = (a / 2 ^ 63) ^^^ 1 := by rw [Nat.xor_div_two_pow, Nat.div_self (Nat.two_pow_pos 63)]
  have h3 : a / 2 ^ 63 = 0 ∨ a / 2 ^ 63 = 1 := by omega
  generalize a ^^^ 2 ^ 63 = t at h1 h2
  rcases h3 with h3 | h3
  · rw [h3] at h2
    have h2 : t / 2 ^ 63 = 1 := h2
    omega
  · rw [h3] at h2
    have h2 : t / 2 ^ 63 = 0 := h2
    omega
theorem uN_xor (x : Int64) : uN (x ^^^ (-9223372036854775808)) = (uN x + 9223372036854775808) % 18446744073709551616 := by
  rw [← nat_xor (uN_lt x)]
  exact UInt64.toNat_xor _ _
theorem uN_int (x : Int64) : x.toInt = if 2 * uN x < 18446744073709551616 then (uN x : Int) else (uN x : Int) - 18446744073709551616 := BitVec.toInt_eq_toNat_cond _
theorem uN_le (x y : Int64) : (x ^^^ (-9223372036854775808)) ≤ (y ^^^ (-9223372036854775808)) ↔ uN x ≤ uN y := by
  have hx := uN_lt x
  have hy := uN_lt y
  rw [Int64.le_iff_toInt_le, uN_int, uN_int, uN_xor, uN_xor]
  omega
theorem uN_sk (x : Int64) {k : Nat} (hk : k < 64) : uN (x.toUInt64 >>> ((nI k).toInt64.toUInt64 &&& Int64.toUInt64 63)).toInt64 = uN x / 2 ^ k := by
  have h : ((nI k).toInt64.toUInt64 &&& Int64.toUInt64 63).toNat % 64 = k := by
    rw [nI_l (by omega), UInt64.toNat_and]
    have e : (lN k).toUInt64.toNat = k % 2 ^ 64 := rfl
    have e2 : (Int64.toUInt64 63).toNat = 2 ^ 6 - 1 := by decide
    rw [e, e2, Nat.and_two_pow_sub_one_eq_mod]
    omega
  rw [uN_shr, h]
/-! ===== unsigned comparison by xor with the least ===== -/
theorem lN_bv (n : Nat) : (lN n).toBitVec = BitVec.ofNat 64 n := rfl
theorem lN_nat {n : Nat} (h : n < 2 ^ 64) : (lN n).toBitVec.toNat = n := by rw [lN_bv, BitVec.toNat_ofNat]; exact Nat.mod_eq_of_lt h
theorem lN_xor (a b : Nat) : lN a ^^^ lN b = lN (a ^^^ b) := by
  apply Int64.toBitVec_inj.mp; rw [Int64.toBitVec_xor, lN_bv, lN_bv, lN_bv]; apply BitVec.eq_of_getLsbD_eq; intro i hi; simp [BitVec.getLsbD_ofNat, Nat.testBit_xor, hi]
theorem lN_ti {m : Nat} (h : m < 2 ^ 64) : (lN m).toInt = if m < 2 ^ 63 then (m : Int) else (m : Int) - 2 ^ 64 := by
  have c := BitVec.toInt_eq_toNat_cond (lN m).toBitVec
  rw [lN_nat h] at c
  show (lN m).toBitVec.toInt = _
  rw [c]
  split <;> split <;> omega
theorem xor63 {x : Nat} (h : x < 2 ^ 63) : x ^^^ 2 ^ 63 = 2 ^ 63 + x := by
  apply Nat.eq_of_testBit_eq
  intro i
  rw [Nat.testBit_xor, Nat.testBit_two_pow]
  rcases Nat.lt_trichotomy i 63 with z | z | z
  · rw [Nat.testBit_two_pow_add_gt z, decide_eq_false (by omega)]; simp
  · subst z; rw [Nat.testBit_two_pow_add_eq]; simp
  · have hp : 2 ^ 64 ≤ 2 ^ i := Nat.pow_le_pow_right (by decide) z
    rw [Nat.testBit_lt_two_pow (show x < 2 ^ i by omega), Nat.testBit_lt_two_pow (show 2 ^ 63 + x < 2 ^ i by omega), decide_eq_false (by omega)]; rfl
theorem xorS {a : Nat} (h : a < 2 ^ 64) : (lN a ^^^ (-9223372036854775808)).toInt = (a : Int) - 2 ^ 63 := by
  rw [show (-9223372036854775808 : Int64) = lN (2 ^ 63) from by decide +kernel, lN_xor]
  rcases Nat.lt_or_ge a (2 ^ 63) with z | z
  · rw [xor63 z, lN_ti (by omega), if_neg (by omega)]; omega
  · obtain ⟨x, rfl⟩ : ∃ x, a = 2 ^ 63 + x := ⟨a - 2 ^ 63, by omega⟩
    rw [← xor63 (by omega), Nat.xor_assoc, Nat.xor_self, Nat.xor_zero, lN_ti (by omega), if_pos (by omega), xor63 (by omega)]; omega
theorem ultL {a b : Nat} (ha : a < 2 ^ 64) (hb : b < 2 ^ 64) : ((lN b ^^^ (-9223372036854775808)) ≤ (lN a ^^^ (-9223372036854775808))) ↔ b ≤ a := by
  rw [Int64.le_iff_toInt_le, xorS ha, xorS hb]; omega
/-! ===== Int64 masks of n low bits ===== -/
theorem cr_bits (W U M : BitVec 64) : ((W &&& U) &&& (U &&& (M ^^^ BitVec.allOnes 64))) = 0#64 ↔ (W &&& U) &&& M = W &&& U := by
  constructor
  · intro h
    apply BitVec.eq_of_getLsbD_eq
    intro i hi
    have e := congrArg (fun x => BitVec.getLsbD x i) h
    simp only [BitVec.getLsbD_and, BitVec.getLsbD_xor, BitVec.getLsbD_allOnes, BitVec.getLsbD_zero, hi, decide_true] at e ⊢
    revert e
    cases W.getLsbD i <;> cases U.getLsbD i <;> cases M.getLsbD i <;> decide
  · intro h
    apply BitVec.eq_of_getLsbD_eq
    intro i hi
    have e := congrArg (fun x => BitVec.getLsbD x i) h
    simp only [BitVec.getLsbD_and, BitVec.getLsbD_xor, BitVec.getLsbD_allOnes, BitVec.getLsbD_zero, hi, decide_true] at e ⊢
    revert e
    cases W.getLsbD i <;> cases U.getLsbD i <;> cases M.getLsbD i <;> decide
theorem cr_mask (w U m : Int64) (n : Nat) (hm : m.toBitVec.toNat = 2 ^ n - 1) : ((w &&& U) &&& (U &&& (m ^^^ (-1)))) = 0 ↔ (w &&& U).toBitVec.toNat < 2 ^ n := by
  have e0 : (-1 : Int64).toBitVec = BitVec.allOnes 64 := by decide
  have z0 : (0 : Int64).toBitVec = 0#64 := by decide
  rw [← Int64.toBitVec_inj, z0, Int64.toBitVec_and, Int64.toBitVec_and, Int64.toBitVec_and, Int64.toBitVec_xor, e0, cr_bits]
  generalize w.toBitVec &&& U.toBitVec = T
  rw [← BitVec.toNat_inj, BitVec.toNat_and, hm, Nat.and_two_pow_sub_one_eq_mod]
  constructor
  · intro h
    have t := Nat.mod_lt T.toNat (Nat.two_pow_pos n)
    rw [h] at t
    exact t
  · exact Nat.mod_eq_of_lt
theorem cr_shr (t : Int64) (x : UInt64) (n : Nat) (hx : x.toNat % 64 = n) : (t.toUInt64 >>> x).toInt64 = 0 ↔ t.toBitVec.toNat < 2 ^ n := by
  rw [← Int64.toBitVec_inj, ← BitVec.toNat_inj]
  show (t.toUInt64 >>> x).toNat = 0 ↔ t.toUInt64.toNat < 2 ^ n
  rw [UInt64.toNat_shiftRight, hx, Nat.shiftRight_eq_div_pow]
  constructor
  · intro h
    have d : t.toUInt64.toNat / 2 ^ n < 1 := by
      rw [h]
      decide
    have e := (Nat.div_lt_iff_lt_mul (Nat.two_pow_pos n)).mp d
    rw [Nat.one_mul] at e
    exact e
  · exact Nat.div_eq_of_lt
theorem cr_amt (s : Int64) : ∃ n, n < 64 ∧ s &&& 63 = lN n ∧ (s.toUInt64 &&& Int64.toUInt64 63).toNat % 64 = n := by
  have e : (s.toUInt64 &&& Int64.toUInt64 63).toNat = s.toUInt64.toNat % 2 ^ 6 := by
    rw [UInt64.toNat_and, show (Int64.toUInt64 63).toNat = 2 ^ 6 - 1 from by decide, Nat.and_two_pow_sub_one_eq_mod]
  refine ⟨s.toUInt64.toNat % 2 ^ 6, by omega, ?_, by omega⟩
  rw [← Int64.toBitVec_inj, ← BitVec.toNat_inj]
  show (s.toUInt64 &&& Int64.toUInt64 63).toNat = (BitVec.ofNat 64 (s.toUInt64.toNat % 2 ^ 6)).toNat
  rw [e, BitVec.toNat_ofNat]
  omega
end
section
/-! what a contract gives, weaker; bitCount -/
theorem Ct.to {ad : Nat → Nat} {μ : MI} {d : Nat} {args : List Value} {m : Wm} {Q Q' : Option Value → Wm → Prop} (h : Ct ad μ d args m Q) (k : ∀ v m', Q v m' → Q' v m') : Ct ad μ d args m Q' := Ct.mono h k
def bcnt (x : Int32) : Int32 :=
  let a := x - (((x.toUInt32 >>> ((1 : Int32).toUInt32 &&& Int32.toUInt32 31)).toInt32) &&& 1431655765)
  let b := (a &&& 858993459) + (((a.toUInt32 >>> ((2 : Int32).toUInt32 &&& Int32.toUInt32 31)).toInt32) &&& 858993459)
  let c := (b + ((b.toUInt32 >>> ((4 : Int32).toUInt32 &&& Int32.toUInt32 31)).toInt32)) &&& 252645135
  let e := c + ((c.toUInt32 >>> ((8 : Int32).toUInt32 &&& Int32.toUInt32 31)).toInt32)
  let f := e + ((e.toUInt32 >>> ((16 : Int32).toUInt32 &&& Int32.toUInt32 31)).toInt32)
  f &&& 63
set_option maxHeartbeats 1000000 in
theorem v_bitCount {ad : Nat → Nat} {d : Nat} {m : Wm} {x : Int32} : Ct ad μJ6_bitCount d [.int x] m (fun r m' => m' = m ∧ r = some (.int (bcnt x))) := by
  refine Ct.of (by decide +kernel) rfl (Nat.le_of_ble_eq_true rfl) ?_
  refine aw_eq (L' := [(0, .int x)]) ?_ rfl rfl rfl
  refine aw_iload_n (j := 0) dJ6_bitCount_0f7a4_0 rfl rfl ?_
  refine aw_iload_n (j := 0) dJ6_bitCount_0f7a4_1 rfl rfl ?_
  refine aw_iconst (v := 1) dJ6_bitCount_0f7a4_2 (by decide) ?_
  refine aw_iushr dJ6_bitCount_0f7a4_3 ?_
  refine aw_ldcw dJ6_bitCount_0f7a4_4 c_J6_265 ?_
  refine aw_iand dJ6_bitCount_0f7a4_7 ?_
  refine aw_isub dJ6_bitCount_0f7a4_8 ?_
  refine aw_istore_n (i := 0) (L' := [(0, .int _)]) dJ6_bitCount_0f7a4_9 rfl (by decide) rfl ?_
  refine aw_iload_n (j := 0) dJ6_bitCount_0f7a4_10 rfl rfl ?_
  refine aw_ldcw dJ6_bitCount_0f7a4_11 c_J6_266 ?_
  refine aw_iand dJ6_bitCount_0f7a4_14 ?_
  refine aw_iload_n (j := 0) dJ6_bitCount_0f7a4_15 rfl rfl ?_
  refine aw_iconst (v := 2) dJ6_bitCount_0f7a4_16 (by decide) ?_
  refine aw_iushr dJ6_bitCount_0f7a4_17 ?_
  refine aw_ldcw dJ6_bitCount_0f7a4_18 c_J6_266 ?_
  refine aw_iand dJ6_bitCount_0f7a4_21 ?_
  refine aw_iadd dJ6_bitCount_0f7a4_22 ?_
  refine aw_istore_n (i := 0) (L' := [(0, .int _)]) dJ6_bitCount_0f7a4_23 rfl (by decide) rfl ?_
  refine aw_iload_n (j := 0) dJ6_bitCount_0f7a4_24 rfl rfl ?_
  refine aw_iload_n (j := 0) dJ6_bitCount_0f7a4_25 rfl rfl ?_
  refine aw_iconst (v := 4) dJ6_bitCount_0f7a4_26 (by decide) ?_
  refine aw_iushr dJ6_bitCount_0f7a4_27 ?_
  refine aw_iadd dJ6_bitCount_0f7a4_28 ?_
  refine aw_ldcw dJ6_bitCount_0f7a4_29 c_J6_267 ?_
  refine aw_iand dJ6_bitCount_0f7a4_32 ?_
  refine aw_istore_n (i := 0) (L' := [(0, .int _)]) dJ6_bitCount_0f7a4_33 rfl (by decide) rfl ?_
  refine aw_iload_n (j := 0) dJ6_bitCount_0f7a4_34 rfl rfl ?_
  refine aw_iload_n (j := 0) dJ6_bitCount_0f7a4_35 rfl rfl ?_
  refine aw_bipush (v := 8) dJ6_bitCount_0f7a4_36 (by decide) ?_
  refine aw_iushr dJ6_bitCount_0f7a4_38 ?_
  refine aw_iadd dJ6_bitCount_0f7a4_39 ?_
  refine aw_istore_n (i := 0) (L' := [(0, .int _)]) dJ6_bitCount_0f7a4_40 rfl (by decide) rfl ?_
  refine aw_iload_n (j := 0) dJ6_bitCount_0f7a4_41 rfl rfl ?_
  refine aw_iload_n (j := 0) dJ6_bitCount_0f7a4_42 rfl rfl ?_
  refine aw_bipush (v := 16) dJ6_bitCount_0f7a4_43 (by decide) ?_
  refine aw_iushr dJ6_bitCount_0f7a4_45 ?_
  refine aw_iadd dJ6_bitCount_0f7a4_46 ?_
  refine aw_istore_n (i := 0) (L' := [(0, .int _)]) dJ6_bitCount_0f7a4_47 rfl (by decide) rfl ?_
  refine aw_iload_n (j := 0) dJ6_bitCount_0f7a4_48 rfl rfl ?_
  refine aw_bipush (v := 63) dJ6_bitCount_0f7a4_49 (by decide) ?_
  refine aw_iand dJ6_bitCount_0f7a4_51 ?_
  exact aw_ret (v := some (.int _)) rfl (Or.inr (Or.inl ⟨_, .int, rfl, rfl, rfl, dJ6_bitCount_0f7a4_52⟩)) ⟨rfl, rfl⟩
end
section
/-! ROWS THAT SERVE MANY METHODS: counting up, layouts of the model's league in an int[], questions of both sides -/
theorem down {N : Nat} {P : Nat → Prop} (h0 : P N) (hs : ∀ k, k < N → P (k + 1) → P k) : ∀ {k : Nat}, k ≤ N → P k := by
  have h : ∀ n k, k + n = N → P k := by
    intro n
    induction n with
    | zero => intro k hk; have : k = N := hk; exact this ▸ h0
    | succ n ih => intro k hk; exact hs k (by omega) (ih (k + 1) (by omega))
  intro k hk
  exact h (N - k) k (by omega)
/-! a literal c is nI n -/
theorem le_l (n : Nat) (c : Int32) (e : c = nI n) {k : Nat} (hn : n < 2147483648) (hk : k < 2147483648) : c ≤ nI k ↔ n ≤ k := by rw [e]; exact nI_leI hn hk
theorem lt_l (n : Nat) (c : Int32) (e : c = nI n) {k : Nat} (hn : n < 2147483648) (hk : k < 2147483648) : c < nI k ↔ n < k := by rw [e]; exact nI_ltI hn hk
theorem l_le (n : Nat) (c : Int32) (e : c = nI n) {k : Nat} (hn : n < 2147483648) (hk : k < 2147483648) : nI k ≤ c ↔ k ≤ n := by rw [e]; exact nI_leI hk hn
theorem l_lt (n : Nat) (c : Int32) (e : c = nI n) {k : Nat} (hn : n < 2147483648) (hk : k < 2147483648) : nI k < c ↔ k < n := by rw [e]; exact nI_ltI hk hn
theorem add_l (n : Nat) (c : Int32) (e : c = nI n) (a : Nat) : nI a + c = nI (a + n) := by rw [e]; exact nI_add a n
theorem l_add (n : Nat) (c : Int32) (e : c = nI n) (a : Nat) : c + nI a = nI (n + a) := by rw [e]; exact nI_add n a
theorem nI_mul (a b : Nat) : nI a * nI b = nI (a * b) := (Int32.ofNat_mul a b).symm
theorem l_mul (n : Nat) (c : Int32) (e : c = nI n) (a : Nat) : c * nI a = nI (n * a) := by rw [e]; exact nI_mul n a
theorem mul_l (n : Nat) (c : Int32) (e : c = nI n) (a : Nat) : nI a * c = nI (a * n) := by rw [e]; exact nI_mul a n
theorem nat_in {k n : Nat} (h : k < n) (hn : n < 2147483648) : vp_in (nI k) n := vp_in_nI h hn
theorem bz_ite {c : Prop} [Decidable c] : bz (if c then 1 else 0) := by by_cases h : c <;> simp [h, bz]
section GEN
variable {ad : Nat → Nat} {d : Nat} {m : Wm}
/-! the model's questions -/
theorem in_ok {y0 y2 y4 : Int64} : Ct ad μX12_in d [.long y0, .long y2, .long y4] m (fun r m' => m' = m ∧ r = some (.int (if y2 ≤ y0 ∧ y0 ≤ y4 then 1 else 0))) := by
  refine v_X12_in ⟨fun h => ?_, fun h => ⟨fun h2 => ?_, fun h2 => ?_⟩⟩
  · rw [lg_cmp_lt, fa_lt64] at h
    rw [if_neg (fun q => by have := (fa_le64 _ _).mp q.1; omega)]
    exact ⟨rfl, rfl⟩
  · rw [lg_cmp_gt, fa_lt64] at h2
    rw [if_neg (fun q => by have := (fa_le64 _ _).mp q.2; omega)]
    exact ⟨rfl, rfl⟩
  · rw [lg_cmp_lt, fa_lt64] at h
    rw [lg_cmp_gt, fa_lt64] at h2
    rw [if_pos ⟨(fa_le64 _ _).mpr (by omega), (fa_le64 _ _).mpr (by omega)⟩]
    exact ⟨rfl, rfl⟩
theorem in_i {x lo hi : Int32} {y2 y4 : Int64} (h2 : y2 = lo.toInt64) (h4 : y4 = hi.toInt64) : Ct ad μX12_in d [.long x.toInt64, .long y2, .long y4] m (fun r m' => m' = m ∧ r = some (.int (if lo ≤ x ∧ x ≤ hi then 1 else 0))) := by
  subst h2 h4
  refine in_ok.to ?_
  rintro _ _ ⟨rfl, rfl⟩
  simp only [fa_wide_le]
  exact ⟨trivial, trivial⟩
theorem isSide_ok {x : Int32} : Ct ad μX12_isSide (d + 1) [.ref (ad 187), .int x] m (fun r m' => m' = m ∧ r = some (.int (if 0 ≤ x ∧ x ≤ m.1 187 1 - 1 then 1 else 0))) :=
  v_X12_isSide ((in_i (lo := 0) rfl rfl).to (by rintro _ _ ⟨rfl, rfl⟩; exact ⟨_, rfl, bz_ite, rfl, rfl⟩))
theorem isArt_ok {x : Int32} : Ct ad μX12_isArt (d + 1) [.ref (ad 187), .int x] m (fun r m' => m' = m ∧ r = some (.int (if 0 ≤ x ∧ x ≤ m.1 187 0 - 1 then 1 else 0))) :=
  v_X12_isArt ((in_i (lo := 0) rfl rfl).to (by rintro _ _ ⟨rfl, rfl⟩; exact ⟨_, rfl, bz_ite, rfl, rfl⟩))
theorem tellM {y : Int64} {n : Nat} (h : m.1 187 16 = nI n) (hn : n < 16) : Ct ad μX12_tell d [.ref (ad 187), .long y] m (fun r m' => r = none ∧ m' = uI (uL m 196 n y) 187 16 (nI (n + 1))) := by
  refine v_X12_tell ⟨by rw [h]; exact nat_in hn (by decide), rfl, ?_⟩
  show uI (uL m 196 (m.1 187 16).toNatClampNeg y) 187 16 (m.1 187 16 + 1) = _
  rw [h, nI_clamp (by omega), nI_1]
/-! the model's league in a row of ints -/
def layV (m : Wm) (k : Nat) : Int32 := if k < 32 then m.1 188 k else if k < 56 then (if (k - 32) % 3 = 0 then m.1 190 ((k - 32) / 3) else if (k - 32) % 3 = 1 then m.1 191 ((k - 32) / 3) else m.1 192 ((k - 32) / 3)) else m.1 187 8
def layM (m : Wm) (a x n : Nat) : Wm := (fun b j => if b = a ∧ x ≤ j ∧ j < x + n then layV m (j - x) else m.1 b j, m.2)
theorem layM_0 {a x : Nat} : layM m a x 0 = m := by
  unfold layM
  have : (fun b j => if b = a ∧ x ≤ j ∧ j < x + 0 then layV m (j - x) else m.1 b j) = m.1 := by
    funext b j
    rw [if_neg (by omega)]
  rw [this]
theorem layM_step {a x n i : Nat} {v : Int32} (hi : i = x + n) (hv : v = layV m n) : uI (layM m a x n) a i v = layM m a x (n + 1) := by
  subst hi hv
  have : (fun b j => if b = a ∧ j = x + n then layV m n else (layM m a x n).1 b j) = (layM m a x (n + 1)).1 := by
    funext b j
    show _ = if b = a ∧ x ≤ j ∧ j < x + (n + 1) then layV m (j - x) else m.1 b j
    by_cases hb : b = a
    · by_cases hj : j = x + n
      · rw [if_pos ⟨hb, hj⟩, if_pos ⟨hb, by omega, by omega⟩, hj, Nat.add_sub_cancel_left]
      · rw [if_neg (fun q => hj q.2)]
        show (if b = a ∧ x ≤ j ∧ j < x + n then layV m (j - x) else m.1 b j) = _
        by_cases hc : x ≤ j ∧ j < x + n
        · rw [if_pos ⟨hb, hc⟩, if_pos ⟨hb, hc.1, by omega⟩]
        · rw [if_neg (fun q => hc q.2), if_neg (fun q => hc ⟨q.2.1, by omega⟩)]
    · rw [if_neg (fun q => hb q.1), if_neg (fun q => hb q.1)]
      show (if b = a ∧ x ≤ j ∧ j < x + n then layV m (j - x) else m.1 b j) = _
      rw [if_neg (fun q => hb q.1)]
  show ((fun b j => if b = a ∧ j = x + n then layV m n else (layM m a x n).1 b j), m.2) = layM m a x (n + 1)
  rw [this]
  rfl
theorem layM_at {a x n b j : Nat} (hb : b ≠ a) : (layM m a x n).1 b j = m.1 b j := if_neg (fun q => hb q.1)
theorem layV_a {k : Nat} (h : k < 32) : layV m k = m.1 188 k := if_pos h
theorem layV_b {k r : Nat} (h : k < 8) (hr : r < 3) : layV m (32 + 3 * k + r) = if r = 0 then m.1 190 k else if r = 1 then m.1 191 k else m.1 192 k := by
  unfold layV
  rw [if_neg (by omega), if_pos (by omega), show (32 + 3 * k + r - 32) % 3 = r by omega, show (32 + 3 * k + r - 32) / 3 = k by omega]
theorem layC {a na x : Nat} (ha : LAY[a]? = some (.inr (0, na))) (hn : ∀ b ∈ [187, 188, 190, 191, 192], b ≠ a) (hx : x + 57 ≤ na) (hb : na < 100000) : Ct ad μX12_lay d [.ref (ad 187), .ref (ad a), .int (nI x)] m (fun r m' => r = none ∧ m' = layM m a x 57) := by
  refine v_X12_lay ha ?_
  have h1 : ∀ Q : Option Value → Wm → Prop, AW ad E0 μX12_lay d Q 37 [(0, .ref (ad 187)), (1, .ref (ad a)), (3, .int (nI (x + 32))), (4, .int (nI 0))] [] (layM m a x 32) → AW ad E0 μX12_lay d Q 5 [(0, .ref (ad 187)), (1, .ref (ad a)), (3, .int (nI x)), (4, .int (nI 0))] [] m := by
    intro Q h
    have := down (N := 32) (P := fun k => AW ad E0 μX12_lay d Q 5 [(0, .ref (ad 187)), (1, .ref (ad a)), (3, .int (nI x)), (4, .int (nI k))] [] (layM m a x k)) ?_ ?_ (Nat.zero_le _)
    · rw [layM_0] at this
      exact this
    · exact g_X12_lay_5 ha ⟨fun _ => by rw [add_l 32 32 rfl]; exact h, fun h => absurd (by decide) h⟩
    · intro k hk ih
      refine g_X12_lay_5 ha ⟨fun h => absurd ((le_l 32 32 rfl (by omega) (by omega)).mp h) (by omega), fun _ => ⟨nat_in hk (by decide), by rw [nI_add]; exact nat_in (by omega) (by omega), ?_⟩⟩
      rw [nI_add, nI_1, layM_step (by rw [nI_clamp (by omega)]) (by rw [layM_at (hn 188 (by simp)), nI_clamp (by omega), layV_a hk])]
      exact ih
  refine h1 _ ?_
  have := down (N := 8) (P := fun k => AW ad E0 μX12_lay d (fun r m' => r = none ∧ m' = layM m a x 57) 37 [(0, .ref (ad 187)), (1, .ref (ad a)), (3, .int (nI (x + 32))), (4, .int (nI k))] [] (layM m a x (32 + 3 * k))) ?_ ?_ (Nat.zero_le _)
  · exact this
  · refine g_X12_lay_37 ha ⟨fun _ => ⟨by rw [add_l 24 24 rfl]; exact nat_in (by omega) (by omega), rfl, ?_⟩, fun h => absurd (by decide) h⟩
    rw [add_l 24 24 rfl, layM_step (by rw [nI_clamp (by omega)]) (by rw [layM_at (hn 187 (by simp))]; rfl)]
  · intro k hk ih
    have e3 : (3 : Int32) * nI k = nI (3 * k) := l_mul 3 3 rfl k
    refine g_X12_lay_37 ha ⟨fun h => absurd ((le_l 8 8 rfl (by omega) (by omega)).mp h) (by omega), fun _ => ?_⟩
    rw [e3, nI_add, nI_1 (x + 32 + 3 * k), add_l 2 2 rfl, nI_1]
    refine ⟨nat_in hk (by decide), nat_in (by omega) (by omega), nat_in hk (by decide), nat_in (by omega) (by omega), nat_in hk (by decide), nat_in (by omega) (by omega), ?_⟩
    rw [layM_step (n := 32 + 3 * k) (by rw [nI_clamp (by omega)]; omega) (by rw [layM_at (hn 190 (by simp)), nI_clamp (by omega)]; exact (layV_b (r := 0) hk (by decide)).symm)]
    rw [layM_step (n := 32 + 3 * k + 1) (by rw [nI_clamp (by omega)]; omega) (by rw [layM_at (hn 191 (by simp)), nI_clamp (by omega)]; exact (layV_b (r := 1) hk (by decide)).symm)]
    rw [layM_step (n := 32 + 3 * k + 1 + 1) (by rw [nI_clamp (by omega)]; omega) (by rw [layM_at (hn 192 (by simp)), nI_clamp (by omega)]; exact (layV_b (r := 2) hk (by decide)).symm)]
    exact ih
def tgt (n : Nat) : Nat × Nat := if n < 32 then (188, n) else if n < 56 then (190 + (n - 32) % 3, (n - 32) / 3) else (187, 8)
theorem tgt_inj : ∀ i : Fin 57, ∀ j : Fin 57, tgt i.val = tgt j.val → i = j := by decide +kernel
theorem tgt_in : ∀ i : Fin 57, (tgt i.val).1 ∈ [187, 188, 190, 191, 192] := by decide +kernel
def brM (m : Wm) (a x : Nat) : Nat → Wm
  | 0 => m
  | n + 1 => uI (brM m a x n) (tgt n).1 (tgt n).2 (m.1 a (x + n))
theorem brM_at {a x k : Nat} : ∀ {n : Nat}, k < n → n ≤ 57 → (brM m a x n).1 (tgt k).1 (tgt k).2 = m.1 a (x + k) := by
  intro n
  induction n with
  | zero => intro h; omega
  | succ n ih =>
    intro h hn
    show (if (tgt k).1 = (tgt n).1 ∧ (tgt k).2 = (tgt n).2 then m.1 a (x + n) else (brM m a x n).1 (tgt k).1 (tgt k).2) = _
    by_cases hk : k = n
    · subst hk; rw [if_pos ⟨rfl, rfl⟩]
    · rw [if_neg (fun q => hk (by have := tgt_inj ⟨k, by omega⟩ ⟨n, by omega⟩ (Prod.ext q.1 q.2); exact Fin.mk.inj_iff.mp this))]
      exact ih (by omega) (by omega)
theorem brM_out {a x b j : Nat} (hb : ∀ k : Fin 57, tgt k.val ≠ (b, j)) : ∀ {n : Nat}, n ≤ 57 → (brM m a x n).1 b j = m.1 b j := by
  intro n
  induction n with
  | zero => intro _; rfl
  | succ n ih =>
    intro hn
    show (if b = (tgt n).1 ∧ j = (tgt n).2 then m.1 a (x + n) else (brM m a x n).1 b j) = _
    rw [if_neg (fun q => hb ⟨n, by omega⟩ (Prod.ext q.1.symm q.2.symm))]
    exact ih (by omega)
theorem brM_cell {a x b j : Nat} (hb : ∀ c ∈ [187, 188, 190, 191, 192], c ≠ b) {n : Nat} (hn : n ≤ 57) : (brM m a x n).1 b j = m.1 b j :=
  brM_out (fun k h => hb _ (tgt_in k) (congrArg Prod.fst h)) hn
theorem brM_2 {a x : Nat} : ∀ n, (brM m a x n).2 = m.2 := by
  intro n
  induction n with
  | zero => rfl
  | succ n ih => exact ih
theorem tgt_a {k : Nat} (h : k < 32) : tgt k = (188, k) := if_pos h
theorem tgt_b {k r : Nat} (h : k < 8) (hr : r < 3) : tgt (32 + 3 * k + r) = (190 + r, k) := by
  unfold tgt
  rw [if_neg (by omega), if_pos (by omega), show (32 + 3 * k + r - 32) % 3 = r by omega, show (32 + 3 * k + r - 32) / 3 = k by omega]
theorem brM_step {a x n b j : Nat} {v : Int32} (ht : tgt n = (b, j)) (hv : v = m.1 a (x + n)) : uI (brM m a x n) b j v = brM m a x (n + 1) := by
  subst hv
  show _ = uI (brM m a x n) (tgt n).1 (tgt n).2 (m.1 a (x + n))
  rw [ht]
theorem bringC {a na x : Nat} (ha : LAY[a]? = some (.inr (0, na))) (hn : ∀ b ∈ [187, 188, 190, 191, 192], b ≠ a) (hx : x + 57 ≤ na) (hb : na < 100000) : Ct ad μX12_bring d [.ref (ad 187), .ref (ad a), .int (nI x)] m (fun r m' => r = none ∧ m' = brM m a x 57) := by
  refine v_X12_bring ha ?_
  have h1 : ∀ Q : Option Value → Wm → Prop, AW ad E0 μX12_bring d Q 37 [(0, .ref (ad 187)), (1, .ref (ad a)), (3, .int (nI (x + 32))), (4, .int (nI 0))] [] (brM m a x 32) → AW ad E0 μX12_bring d Q 5 [(0, .ref (ad 187)), (1, .ref (ad a)), (3, .int (nI x)), (4, .int (nI 0))] [] m := by
    intro Q h
    have := down (N := 32) (P := fun k => AW ad E0 μX12_bring d Q 5 [(0, .ref (ad 187)), (1, .ref (ad a)), (3, .int (nI x)), (4, .int (nI k))] [] (brM m a x k)) ?_ ?_ (Nat.zero_le _)
    · exact this
    · exact g_X12_bring_5 ha ⟨fun _ => by rw [add_l 32 32 rfl]; exact h, fun h => absurd (by decide) h⟩
    · intro k hk ih
      refine g_X12_bring_5 ha ⟨fun h => absurd ((le_l 32 32 rfl (by omega) (by omega)).mp h) (by omega), fun _ => ⟨by rw [nI_add]; exact nat_in (by omega) (by omega), nat_in hk (by decide), ?_⟩⟩
      rw [nI_add, nI_1, brM_step (by rw [nI_clamp (by omega)]; exact tgt_a hk) (by rw [brM_cell hn (by omega), nI_clamp (by omega)])]
      exact ih
  refine h1 _ ?_
  have := down (N := 8) (P := fun k => AW ad E0 μX12_bring d (fun r m' => r = none ∧ m' = brM m a x 57) 37 [(0, .ref (ad 187)), (1, .ref (ad a)), (3, .int (nI (x + 32))), (4, .int (nI k))] [] (brM m a x (32 + 3 * k))) ?_ ?_ (Nat.zero_le _)
  · exact this
  · refine g_X12_bring_37 ha ⟨fun _ => ⟨by rw [add_l 24 24 rfl]; exact nat_in (by omega) (by omega), rfl, ?_⟩, fun h => absurd (by decide) h⟩
    rw [add_l 24 24 rfl, brM_step (n := 56) rfl (by rw [brM_cell hn (by omega), nI_clamp (by omega)])]
  · intro k hk ih
    have e3 : (3 : Int32) * nI k = nI (3 * k) := l_mul 3 3 rfl k
    have w : ∀ (b j n : Nat), n ≤ 57 → (brM m a x n).1 a j = m.1 a j := fun b j n h => brM_cell hn h
    refine g_X12_bring_37 ha ⟨fun h => absurd ((le_l 8 8 rfl (by omega) (by omega)).mp h) (by omega), fun _ => ?_⟩
    rw [e3, nI_add, nI_1 (x + 32 + 3 * k), add_l 2 2 rfl, nI_1]
    refine ⟨nat_in (by omega) (by omega), nat_in hk (by decide), nat_in (by omega) (by omega), nat_in hk (by decide), nat_in (by omega) (by omega), nat_in hk (by decide), ?_⟩
    rw [brM_step (n := 32 + 3 * k) (by rw [nI_clamp (by omega)]; exact tgt_b (r := 0) hk (by decide)) (by rw [brM_cell hn (by omega), nI_clamp (by omega)]; exact congrArg (m.1 a) (by omega))]
    rw [brM_step (n := 32 + 3 * k + 1) (by rw [nI_clamp (by omega)]; exact tgt_b (r := 1) hk (by decide)) (by rw [brM_cell hn (by omega), nI_clamp (by omega)]; exact congrArg (m.1 a) (by omega))]
    rw [brM_step (n := 32 + 3 * k + 1 + 1) (by rw [nI_clamp (by omega)]; exact tgt_b (r := 2) hk (by decide)) (by rw [brM_cell hn (by omega), nI_clamp (by omega)]; exact congrArg (m.1 a) (by omega))]
    exact ih
theorem sumOfAll0 (h : m.1 187 1 = 0) : Ct ad μX12_sumOfAll (d + 1) [.ref (ad 187)] m (fun r m' => m' = m ∧ r = some (.int 0)) :=
  v_X12_sumOfAll (g_X12_sumOfAll_4 ⟨fun _ => ⟨rfl, rfl⟩, fun h1 => absurd (by rw [h]; decide) h1⟩)
end GEN
end
section
/-! numbers -/
theorem fb_rng (x : Int32) : -2147483648 ≤ x.toInt ∧ x.toInt < 2147483648 := by
  have h1 := Int32.le_toInt x
  have h2 := Int32.toInt_lt x
  omega
theorem fb_bmod {z : Int} (h1 : -2147483648 ≤ z) (h2 : z < 2147483648) : z.bmod (2 ^ 32) = z := by
  rw [Int.bmod_eq_of_le (by omega) (by omega)]
theorem fb_addI {x y : Int32} (h1 : -2147483648 ≤ x.toInt + y.toInt) (h2 : x.toInt + y.toInt < 2147483648) : (x + y).toInt = x.toInt + y.toInt := by
  rw [Int32.toInt_add, fb_bmod h1 h2]
theorem fb_subI {x y : Int32} (h1 : -2147483648 ≤ x.toInt - y.toInt) (h2 : x.toInt - y.toInt < 2147483648) : (x - y).toInt = x.toInt - y.toInt := by
  rw [Int32.toInt_sub, fb_bmod h1 h2]
theorem fb_mulI {x y : Int32} (h1 : -2147483648 ≤ x.toInt * y.toInt) (h2 : x.toInt * y.toInt < 2147483648) : (x * y).toInt = x.toInt * y.toInt := by
  rw [Int32.toInt_mul, fb_bmod h1 h2]
theorem z_le {a b : Int32} (h : a ≤ b) : a.toInt ≤ b.toInt := (fa_le _ _).mp h
theorem z_nle {a b : Int32} (h : ¬ a ≤ b) : b.toInt < a.toInt := (fa_lt _ _).mp (fa_of_nle h)
theorem z_lt {a b : Int32} (h : a < b) : a.toInt < b.toInt := (fa_lt _ _).mp h
theorem z_nlt {a b : Int32} (h : ¬ a < b) : b.toInt ≤ a.toInt := (fa_le _ _).mp (fa_of_nlt h)
theorem z_eq {a b : Int32} (h : a = b) : a.toInt = b.toInt := congrArg _ h
theorem z_ne {a b : Int32} (h : ¬ a = b) : ¬ a.toInt = b.toInt := fun e => h ((fa_eq _ _).mpr e)
theorem z_ne' {a b : Int32} (h : ¬ a.toInt = b.toInt) : ¬ a = b := fun e => h (congrArg _ e)
theorem y_ler {a c : Int32} {n : Int} (e : c.toInt = n) (h : a ≤ c) : a.toInt ≤ n := e ▸ z_le h
theorem y_lel {a c : Int32} {n : Int} (e : c.toInt = n) (h : c ≤ a) : n ≤ a.toInt := e ▸ z_le h
theorem y_nler {a c : Int32} {n : Int} (e : c.toInt = n) (h : ¬ a ≤ c) : n < a.toInt := e ▸ z_nle h
theorem y_nlel {a c : Int32} {n : Int} (e : c.toInt = n) (h : ¬ c ≤ a) : a.toInt < n := e ▸ z_nle h
theorem y_ltr {a c : Int32} {n : Int} (e : c.toInt = n) (h : a < c) : a.toInt < n := e ▸ z_lt h
theorem y_ltl {a c : Int32} {n : Int} (e : c.toInt = n) (h : c < a) : n < a.toInt := e ▸ z_lt h
theorem y_nltr {a c : Int32} {n : Int} (e : c.toInt = n) (h : ¬ a < c) : n ≤ a.toInt := e ▸ z_nlt h
theorem y_nltl {a c : Int32} {n : Int} (e : c.toInt = n) (h : ¬ c < a) : a.toInt ≤ n := e ▸ z_nlt h
theorem y_eqr {a c : Int32} {n : Int} (e : c.toInt = n) (h : a = c) : a.toInt = n := e ▸ z_eq h
theorem y_eql {a c : Int32} {n : Int} (e : c.toInt = n) (h : c = a) : a.toInt = n := e ▸ (z_eq h).symm
theorem y_ner {a c : Int32} {n : Int} (e : c.toInt = n) (h : ¬ a = c) : ¬ a.toInt = n := e ▸ z_ne h
theorem y_nel {a c : Int32} {n : Int} (e : c.toInt = n) (h : ¬ c = a) : ¬ a.toInt = n := fun q => z_ne h (e.trans q.symm)
theorem y_nn {a c : Int32} {n : Int} (e : c.toInt = n) (h : ¬ a.toInt = n) : ¬ a = c := fun q => h ((congrArg _ q).trans e)
theorem vpi {x : Int32} {n : Nat} (h : 0 ≤ x.toInt) (h2 : x.toInt < (n : Int)) : vp_in x n := vp_in_iff.mpr ⟨h, h2⟩
theorem bz_of {x : Int32} (h : 0 ≤ x.toInt) (h2 : x.toInt ≤ 1) : bz x := by
  have h3 : x.toInt = 0 ∨ x.toInt = 1 := by omega
  rcases h3 with e | e
  · exact Or.inl ((fa_eq _ _).mpr e)
  · exact Or.inr ((fa_eq _ _).mpr e)
theorem ti_add {x y : Int32} (h : -2147483648 ≤ x.toInt + y.toInt ∧ x.toInt + y.toInt < 2147483648) : (x + y).toInt = x.toInt + y.toInt := fb_addI h.1 h.2
theorem ti_sub {x y : Int32} (h : -2147483648 ≤ x.toInt - y.toInt ∧ x.toInt - y.toInt < 2147483648) : (x - y).toInt = x.toInt - y.toInt := fb_subI h.1 h.2
theorem ti_addc {x y : Int32} {c : Int} (e : y.toInt = c) (h : -2147483648 ≤ x.toInt + c ∧ x.toInt + c < 2147483648) : (x + y).toInt = x.toInt + c := by
  rw [fb_addI (by rw [e]; exact h.1) (by rw [e]; exact h.2), e]
theorem ti_addl {x y : Int32} {c : Int} (e : x.toInt = c) (h : -2147483648 ≤ c + y.toInt ∧ c + y.toInt < 2147483648) : (x + y).toInt = c + y.toInt := by
  rw [fb_addI (by rw [e]; exact h.1) (by rw [e]; exact h.2), e]
theorem ti_subc {x y : Int32} {c : Int} (e : y.toInt = c) (h : -2147483648 ≤ x.toInt - c ∧ x.toInt - c < 2147483648) : (x - y).toInt = x.toInt - c := by
  rw [fb_subI (by rw [e]; exact h.1) (by rw [e]; exact h.2), e]
theorem ti_subl {x y : Int32} {c : Int} (e : x.toInt = c) (h : -2147483648 ≤ c - y.toInt ∧ c - y.toInt < 2147483648) : (x - y).toInt = c - y.toInt := by
  rw [fb_subI (by rw [e]; exact h.1) (by rw [e]; exact h.2), e]
theorem ti_mulc {c : Int} {y x : Int32} (hy : y.toInt = c) (h : -2147483648 ≤ c * x.toInt ∧ c * x.toInt < 2147483648) : (y * x).toInt = c * x.toInt := by
  rw [fb_mulI (by rw [hy]; exact h.1) (by rw [hy]; exact h.2), hy]
theorem ti_mulr {c : Int} {y x : Int32} (hy : y.toInt = c) (h : -2147483648 ≤ c * x.toInt ∧ c * x.toInt < 2147483648) : (x * y).toInt = c * x.toInt := by
  rw [fb_mulI (by rw [hy, Int.mul_comm]; exact h.1) (by rw [hy, Int.mul_comm]; exact h.2), hy, Int.mul_comm]
theorem ti_lt (a b c d : Int32) : (a.toInt < b.toInt ∧ (if a < b then c else d).toInt = c.toInt) ∨ (b.toInt ≤ a.toInt ∧ (if a < b then c else d).toInt = d.toInt) := by
  by_cases h : a < b
  · exact Or.inl ⟨z_lt h, by rw [if_pos h]⟩
  · exact Or.inr ⟨z_nlt h, by rw [if_neg h]⟩
theorem ti_ltv {a b c d : Int32} {A B C D : Int} (ha : a.toInt = A) (hb : b.toInt = B) (hc : c.toInt = C) (hd : d.toInt = D) : (A < B ∧ (if a < b then c else d).toInt = C) ∨ (B ≤ A ∧ (if a < b then c else d).toInt = D) := by
  subst ha hb hc hd
  exact ti_lt a b c d
theorem zn_of {x : Int32} (h : 0 ≤ x.toInt) : ∃ j : Nat, j < 2147483648 ∧ x = nI j :=
  nI_of (fun q => by
    have h1 := z_lt q
    have h2 : (0 : Int32).toInt = 0 := rfl
    omega)
theorem tn {x : Int32} (h : 0 ≤ x.toInt) : ((x.toNatClampNeg : Nat) : Int) = x.toInt := by
  obtain ⟨j, hj, rfl⟩ := zn_of h
  rw [nI_clamp hj, nI_toInt hj]
theorem t_and {x : Int32} {k : Nat} (hk : k < 31) {c : Int32} (hc : c = nI (2 ^ k - 1)) : 0 ≤ (x &&& c).toInt ∧ (x &&& c).toInt < 2 ^ k := by
  obtain ⟨n, hn, rfl⟩ := wb_of32 x
  rw [hc, fa_mask]
  have h1 : n % 2 ^ k < 2 ^ k := Nat.mod_lt _ (Nat.two_pow_pos k)
  have h2 : 2 ^ k < 2 ^ 31 := Nat.pow_lt_pow_right (by decide) hk
  rw [nI_toInt (by omega)]
  have h3 : (2 : Int) ^ k = ((2 ^ k : Nat) : Int) := by simp
  omega
theorem t_and1 (x : Int32) : 0 ≤ (x &&& (1 : Int32)).toInt ∧ (x &&& (1 : Int32)).toInt ≤ 1 := by have := t_and (x := x) (k := 1) (by decide) (c := 1) rfl; omega
theorem t_and7 (x : Int32) : 0 ≤ (x &&& (7 : Int32)).toInt ∧ (x &&& (7 : Int32)).toInt ≤ 7 := by have := t_and (x := x) (k := 3) (by decide) (c := 7) rfl; omega
theorem t_and8191 (x : Int32) : 0 ≤ (x &&& (8191 : Int32)).toInt ∧ (x &&& (8191 : Int32)).toInt ≤ 8191 := by have := t_and (x := x) (k := 13) (by decide) (c := 8191) rfl; omega
theorem t_and1023 (x : Int32) : 0 ≤ (x &&& (1023 : Int32)).toInt ∧ (x &&& (1023 : Int32)).toInt ≤ 1023 := by have := t_and (x := x) (k := 10) (by decide) (c := 1023) rfl; omega
theorem t_div {x y : Int32} {c : Nat} (hy : y = nI c) (hc : 0 < c) (hc2 : c < 2147483648) (h : 0 ≤ x.toInt) : (x / y).toInt = x.toInt / (c : Int) := by
  obtain ⟨j, hj, rfl⟩ := zn_of h
  rw [hy]
  have e : nI j / nI c = nI (j / c) := pk_div (by omega) hc (by omega)
  rw [e, nI_toInt (Nat.lt_of_le_of_lt (Nat.div_le_self _ _) hj), nI_toInt hj]
  simp
theorem t_shl1 {x : Int32} (h1 : 1 ≤ x.toInt) (h2 : x.toInt ≤ 6) : 2 ≤ ((1 : Int32) <<< (x &&& 31)).toInt ∧ ((1 : Int32) <<< (x &&& 31)).toInt ≤ 64 := by
  obtain ⟨j, hj, rfl⟩ := zn_of (by omega : 0 ≤ x.toInt)
  rw [nI_toInt hj] at h1 h2
  have h3 : ∀ k : Fin 7, 1 ≤ k.val → 2 ≤ ((1 : Int32) <<< (nI k.val &&& 31)).toInt ∧ ((1 : Int32) <<< (nI k.val &&& 31)).toInt ≤ 64 := by decide +kernel
  exact h3 ⟨j, by omega⟩ (by show 1 ≤ j; omega)
/-! SAFETY BY PROGRAM: what a number cell holds, where cells lie, what stays -/
def rgK (k : Nat) : Nat := if k = 0 then 23 else if k = 1 then 23 else if k = 8 then 49 else if k = 10 then 25 else if k = 11 then 25 else if k = 12 then 52 else if k = 14 then 21 else if k = 16 then 26 else if k = 17 then 20 else if k = 18 then 22 else if k = 19 then 22 else if k = 20 then 22 else if k = 21 then 22 else if k = 22 then 22 else if k = 27 then 48 else if k = 28 then 28 else if k = 30 then 29 else if k = 32 then 31 else if k = 33 then 31 else if k = 34 then 33 else if k = 35 then 33 else if k = 43 then 35 else if k = 45 then 35 else if k = 46 then 35 else if k = 48 then 37 else if k = 49 then 37 else if k = 52 then 39 else if k = 53 then 45 else 50
def rg (a k : Nat) : Nat := if a < 1 then (if k = 11 then 44 else if k = 10 then 54 else if k = 9 then 54 else if k < 12 then 7 else if k = 15 then 8 else 9) else if a < 3 then 0 else if a = 3 then (if k = 3 then 41 else if k = 4 then 41 else if k = 5 then 42 else if k < 6 then 1 else 2) else if a = 4 then 43 else if a = 7 then 14 else if a = 12 then 14 else if a < 15 then 1 else if a < 21 then 3 else if a < 26 then 4 else if a < 31 then 5 else if a = 31 then (if k = 1 then 53 else if k = 2 then 53 else 6) else if a < 133 then 6 else if a < 146 then 7 else if a < 149 then 8 else if a < 151 then 9 else if a < 156 then 10 else if a < 166 then 11 else if a < 173 then 12 else if a < 187 then 13 else if a = 187 then rgK k else if a = 188 then 24 else if a = 189 then 46 else if a = 190 then 24 else if a = 191 then 24 else if a = 192 then 24 else if a = 193 then 47 else if a = 194 then 55 else if a = 195 then 21 else if a = 196 then 26 else if a = 197 then 27 else if a = 198 then 27 else if a = 199 then 27 else if a = 200 then 48 else if a = 201 then 29 else if a = 202 then 30 else if a = 203 then 32 else if a = 204 then 34 else if a = 205 then 35 else if a = 206 then 35 else if a = 207 then 35 else if a = 208 then 35 else if a = 209 then 35 else if a = 210 then 35 else if a = 211 then 36 else if a = 212 then 38 else if a = 213 then 39 else if a = 214 then 40 else if a = 215 then 40 else if a = 216 then 40 else 51
def TY (a k : Nat) : Option (Int × Int) := if a < 146 then (if a < 135 then (if a < 10 then (if a = 0 then (if k = 15 then some (0, 12) else if k = 18 then some (0, 10) else none) else if a = 1 then (if k = 1 then some (0, 80) else none) else if a = 3 then (if k = 3 then some (0, 8) else if k = 4 then some (0, 4) else none) else if a = 5 then (if k = 4 then some (0, 40) else if k = 5 then some (0, 40) else if k = 6 then some (0, 4) else none) else none) else (if a = 10 then (if k = 4 then some (0, 40) else if k = 5 then some (0, 40) else if k = 6 then some (0, 4) else none) else if a = 15 then (if k = 1 then some (0, 8) else if k = 2 then some (0, 4) else none) else if a = 31 then (if k = 1 then some (0, 20) else if k = 2 then some (0, 19) else none) else if a = 134 then (if k = 5 then some (0, 13) else if k = 6 then some (0, 48) else none) else none)) else (if a < 140 then (if a = 135 then some (0, 7) else if a = 136 then some (0, 7) else if a = 138 then some (0, 48) else if a = 139 then some (0, 7) else none) else (if a < 142 then (if a = 140 then (if k = 5 then some (0, 13) else if k = 6 then some (0, 48) else none) else if a = 141 then some (0, 7) else none) else (if a = 142 then some (0, 7) else if a = 144 then some (0, 48) else if a = 145 then some (0, 7) else none)))) else (if a < 166 then (if a < 155 then (if a = 146 then some (0, 7) else if a = 147 then some (0, 7) else if a = 151 then (if k = 4 then some (0, 3000) else none) else if a = 154 then some (0, 3000) else none) else (if a = 155 then some (0, 8191) else if a = 156 then (if k = 6 then some (0, 2999) else none) else if a = 163 then some (-1, 2999) else if a = 165 then some (0, (k : Int)) else none)) else (if a < 203 then (if a = 166 then (if k = 3 then some (0, 2999) else none) else if a = 187 then (if k = 0 then some (1, 4) else if k = 1 then some (0, 8) else if k = 10 then some (0, 40) else if k = 11 then some (0, 12) else if k = 14 then some (0, 80) else if k = 16 then some (0, 16) else if k = 27 then some (0, 40) else if k = 28 then some (-1, 7) else if k = 30 then some (0, 20) else if k = 43 then some (0, 3000) else if k = 45 then some (0, 2999) else if k = 46 then some (0, 2000) else if k = 52 then some (0, 12) else none) else if a = 194 then (if k % 4 < 2 then some (0, 7) else none) else if a = 199 then (if k % 4 < 2 then some (0, 7) else none) else none) else (if a < 208 then (if a = 203 then some (0, 8) else if a = 207 then some (0, (k : Int)) else none) else (if a = 208 then some (-1, 2999) else if a = 210 then some (0, 3000) else if a = 213 then (if k % 3 < 2 then some (0, 7) else none) else none))))
/-! what a world has -/
abbrev RS (l : List Nat) (a k : Nat) : Prop := l.elem (rg a k) = true
def SR (b ρ : Nat) : Prop := ∀ j k, j ≤ 4 → rg (b + j) k = ρ ∧ TY (b + j) k = none
def SS (b ρ : Nat) : Prop := St b ∧ SR b ρ
def RF (f : Nat → Nat → Option Nat) : Prop := (∃ r, f 3 1 = some r ∧ (r = 5 ∨ r = 10)) ∧ (∃ r, f 3 2 = some r ∧ (r = 5 ∨ r = 10)) ∧ (∃ r, f 0 9 = some r ∧ (r = 134 ∨ r = 140)) ∧ (∃ r, f 0 10 = some r ∧ (r = 134 ∨ r = 140)) ∧ (∀ k, k < 20 → ∃ r, f 32 k = some r ∧ SS r 6) ∧ (∀ k, k < 2 → ∃ r, f 133 k = some r ∧ (r = 173 ∨ r = 180)) ∧ (∀ k, k < 20 → f 32 k = some (33 + 5 * k)) ∧ (∀ k, k < 2 → f 133 k = some (173 + 7 * k))
def WT (m : Wm) : Prop := (∀ a k lo hi, TY a k = some (lo, hi) → lo ≤ (m.1 a k).toInt ∧ (m.1 a k).toInt ≤ hi) ∧ RF m.2.2
def Fx (S : Nat → Nat → Prop) (m m' : Wm) : Prop := ∀ a k, ¬ S a k → m'.1 a k = m.1 a k ∧ m'.2.1 a k = m.2.1 a k ∧ m'.2.2 a k = m.2.2 a k
theorem Fx.rf {S : Nat → Nat → Prop} {m : Wm} : Fx S m m := fun _ _ _ => ⟨rfl, rfl, rfl⟩
theorem Fx.tr {S S' : Nat → Nat → Prop} {m m' m'' : Wm} (h : Fx S m m') (h2 : Fx S' m' m'') (hs : ∀ a k, S' a k → S a k) : Fx S m m'' := fun a k hk => by
  obtain ⟨a1, a2, a3⟩ := h a k hk
  obtain ⟨b1, b2, b3⟩ := h2 a k (fun q => hk (hs a k q))
  exact ⟨b1.trans a1, b2.trans a2, b3.trans a3⟩
theorem Fx.i {S : Nat → Nat → Prop} {m m' : Wm} {a k : Nat} {v : Int32} (h : Fx S m m') (hS : S a k) : Fx S m (uI m' a k v) := fun b j hj => ⟨(if_neg (fun q => hj (by rw [q.1, q.2]; exact hS))).trans (h b j hj).1, (h b j hj).2⟩
theorem Fx.l {S : Nat → Nat → Prop} {m m' : Wm} {a k : Nat} {v : Int64} (h : Fx S m m') (hS : S a k) : Fx S m (uL m' a k v) := fun b j hj => ⟨(h b j hj).1, (if_neg (fun q => hj (by rw [q.1, q.2]; exact hS))).trans (h b j hj).2.1, (h b j hj).2.2⟩
theorem Fx.r {S : Nat → Nat → Prop} {m m' : Wm} {a k : Nat} {v : Option Nat} (h : Fx S m m') (hS : S a k) : Fx S m (uR m' a k v) := fun b j hj => ⟨(h b j hj).1, (h b j hj).2.1, (if_neg (fun q => hj (by rw [q.1, q.2]; exact hS))).trans (h b j hj).2.2⟩
theorem Fx.c {S : Nat → Nat → Prop} {m m' : Wm} {a a0 s e n : Nat} (h : Fx S m m') (hS : ∀ k, S a k) : Fx S m (uC m' a0 a s e n) := fun b j hj => ⟨(if_neg (fun (q : b = a) => hj (by rw [q]; exact hS j))).trans (h b j hj).1, (h b j hj).2⟩
theorem Fx.at {S : Nat → Nat → Prop} {m m' : Wm} (h : Fx S m m') {a k : Nat} (hS : ¬ S a k) : m'.1 a k = m.1 a k := (h a k hS).1
theorem RS_sub {l1 l2 : List Nat} (h : (l1.all fun x => l2.elem x) = true) (a k : Nat) (hk : RS l1 a k) : RS l2 a k :=
  List.all_eq_true.mp h _ (List.mem_of_elem_eq_true hk)
theorem RS_cons {l1 l2 : List Nat} {ρ : Nat} (h : (l1.all fun x => l2.elem x) = true) (a k : Nat) (hk : RS (ρ :: l1) a k) : RS (ρ :: l2) a k := by
  have h1 := List.mem_of_elem_eq_true hk
  refine List.elem_eq_true_of_mem ?_
  rcases List.mem_cons.mp h1 with e | e
  · rw [e]; exact List.mem_cons_self
  · exact List.mem_cons_of_mem _ (List.mem_of_elem_eq_true (List.all_eq_true.mp h _ e))
theorem RS_tl {l1 l2 : List Nat} {ρ : Nat} (h : (l1.all fun x => l2.elem x) = true) (a k : Nat) (hk : RS l1 a k) : RS (ρ :: l2) a k :=
  List.elem_eq_true_of_mem (List.mem_cons_of_mem _ (List.mem_of_elem_eq_true (List.all_eq_true.mp h _ (List.mem_of_elem_eq_true hk))))
theorem RS_hd {l : List Nat} {b ρ j k : Nat} (h : SR b ρ) (hj : j ≤ 4) : RS (ρ :: l) (b + j) k := by
  unfold RS
  rw [(h j k hj).1]
  exact List.elem_eq_true_of_mem List.mem_cons_self
theorem RS_hd0 {l : List Nat} {b ρ k : Nat} (h : SR b ρ) : RS (ρ :: l) b k := RS_hd (j := 0) h (by decide)
theorem WT.at {m : Wm} (h : WT m) {a k : Nat} {lo hi : Int} (e : TY a k = some (lo, hi)) : lo ≤ (m.1 a k).toInt ∧ (m.1 a k).toInt ≤ hi := h.1 a k lo hi e
theorem WT.t {m : Wm} (h : WT m) {a k : Nat} {lo hi : Int} {v : Int32} (e : TY a k = some (lo, hi)) (h1 : lo ≤ v.toInt) (h2 : v.toInt ≤ hi) : WT (uI m a k v) := ⟨fun b j lo' hi' e' => by
    show lo' ≤ (if b = a ∧ j = k then v else m.1 b j).toInt ∧ (if b = a ∧ j = k then v else m.1 b j).toInt ≤ hi'
    by_cases hc : b = a ∧ j = k
    · rw [if_pos hc]
      obtain ⟨rfl, rfl⟩ := hc
      rw [e] at e'
      cases e'
      exact ⟨h1, h2⟩
    · rw [if_neg hc]
      exact h.1 b j lo' hi' e', h.2⟩
theorem WT.n {m : Wm} (h : WT m) {a k : Nat} {v : Int32} (e : TY a k = none) : WT (uI m a k v) := ⟨fun b j lo' hi' e' => by
    show lo' ≤ (if b = a ∧ j = k then v else m.1 b j).toInt ∧ (if b = a ∧ j = k then v else m.1 b j).toInt ≤ hi'
    by_cases hc : b = a ∧ j = k
    · obtain ⟨rfl, rfl⟩ := hc
      rw [e] at e'
      cases e'
    · rw [if_neg hc]
      exact h.1 b j lo' hi' e', h.2⟩
theorem WT.l {m : Wm} (h : WT m) {a k : Nat} {v : Int64} : WT (uL m a k v) := h
theorem WT.c {m : Wm} (h : WT m) {a0 a s e n : Nat} (hn : ∀ k, TY a k = none) : WT (uC m a0 a s e n) := ⟨fun b j lo hi e' => by
    show lo ≤ (if b = a then va_cpy (m.1 a0) (m.1 a) s e n j else m.1 b j).toInt ∧ (if b = a then va_cpy (m.1 a0) (m.1 a) s e n j else m.1 b j).toInt ≤ hi
    by_cases hc : b = a
    · subst hc
      rw [hn j] at e'
      cases e'
    · rw [if_neg hc]
      exact h.1 b j lo hi e', h.2⟩
theorem WT.s {m : Wm} (h : WT m) {b ρ j k : Nat} {v : Int32} (hb : SR b ρ) (hj : j ≤ 4) : WT (uI m (b + j) k v) := h.n (hb j k hj).2
theorem WT.s0 {m : Wm} (h : WT m) {b ρ k : Nat} {v : Int32} (hb : SR b ρ) : WT (uI m b k v) := h.n (hb 0 k (by decide)).2
theorem WT.r31 {m : Wm} (h : WT m) : ∃ r, m.2.2 3 1 = some r ∧ (r = 5 ∨ r = 10) := h.2.1
theorem WT.r32 {m : Wm} (h : WT m) : ∃ r, m.2.2 3 2 = some r ∧ (r = 5 ∨ r = 10) := h.2.2.1
theorem WT.r09 {m : Wm} (h : WT m) : ∃ r, m.2.2 0 9 = some r ∧ (r = 134 ∨ r = 140) := h.2.2.2.1
theorem WT.r010 {m : Wm} (h : WT m) : ∃ r, m.2.2 0 10 = some r ∧ (r = 134 ∨ r = 140) := h.2.2.2.2.1
theorem WT.ring {m : Wm} (h : WT m) {x : Int32} (h0 : 0 ≤ x.toInt) (h1 : x.toInt < 20) : ∃ r, m.2.2 32 x.toNatClampNeg = some r ∧ SS r 6 := h.2.2.2.2.2.1 _ (by have := tn h0; omega)
theorem WT.keep {m : Wm} (h : WT m) {x : Int32} (h0 : 0 ≤ x.toInt) (h1 : x.toInt < 2) : ∃ r, m.2.2 133 x.toNatClampNeg = some r ∧ (r = 173 ∨ r = 180) := h.2.2.2.2.2.2.1 _ (by have := tn h0; omega)
theorem WT.ringx {m : Wm} (h : WT m) {k : Nat} (hk : k < 20) : m.2.2 32 k = some (33 + 5 * k) := h.2.2.2.2.2.2.2.1 k hk
theorem WT.keepx {m : Wm} (h : WT m) {k : Nat} (hk : k < 2) : m.2.2 133 k = some (173 + 7 * k) := h.2.2.2.2.2.2.2.2 k hk
theorem Ru_of {r : Nat} (h : r = 5 ∨ r = 10) : Ru r := by rcases h with rfl | rfl; exact Ru_5; exact Ru_10
theorem Pl_of {r : Nat} (h : r = 134 ∨ r = 140) : Pl r := by rcases h with rfl | rfl; exact Pl_134; exact Pl_140
theorem Ke_of {r : Nat} (h : r = 173 ∨ r = 180) : Ke r := by rcases h with rfl | rfl; exact Ke_173; exact Ke_180
theorem WT.pl {m : Wm} (h : WT m) {r k : Nat} {lo hi : Int} (hr : r = 134 ∨ r = 140) (e : TY 134 k = some (lo, hi)) (e2 : TY 140 k = some (lo, hi)) : lo ≤ (m.1 r k).toInt ∧ (m.1 r k).toInt ≤ hi := by
  rcases hr with rfl | rfl
  · exact h.at e
  · exact h.at e2
theorem WT.plj {m : Wm} (h : WT m) {r j k : Nat} {lo hi : Int} (hr : r = 134 ∨ r = 140) (e : TY (134 + j) k = some (lo, hi)) (e2 : TY (140 + j) k = some (lo, hi)) : lo ≤ (m.1 (r + j) k).toInt ∧ (m.1 (r + j) k).toInt ≤ hi := by
  rcases hr with rfl | rfl
  · exact h.at e
  · exact h.at e2
theorem WT.rR {m : Wm} (h : WT m) {k r : Nat} (hk : k = 1 ∨ k = 2) (hr : r = 5 ∨ r = 10) : WT (uR m 3 k (some r)) := ⟨h.1, by
  obtain ⟨h1, h2, h3, h4, h5, h6, h7, h8⟩ := h.2
  refine ⟨?_, ?_, h3, h4, fun j hj => ?_, fun j hj => ?_, fun j hj => h7 j hj, fun j hj => h8 j hj⟩
  · rcases hk with rfl | rfl
    · exact ⟨r, rfl, hr⟩
    · exact h1
  · rcases hk with rfl | rfl
    · exact h2
    · exact ⟨r, rfl, hr⟩
  · exact h5 j hj
  · exact h6 j hj⟩
theorem WT.rP {m : Wm} (h : WT m) {k r : Nat} (hk : k = 9 ∨ k = 10) (hr : r = 134 ∨ r = 140) : WT (uR m 0 k (some r)) := ⟨h.1, by
  obtain ⟨h1, h2, h3, h4, h5, h6, h7, h8⟩ := h.2
  refine ⟨h1, h2, ?_, ?_, fun j hj => ?_, fun j hj => ?_, fun j hj => h7 j hj, fun j hj => h8 j hj⟩
  · rcases hk with rfl | rfl
    · exact ⟨r, rfl, hr⟩
    · exact h3
  · rcases hk with rfl | rfl
    · exact h4
    · exact ⟨r, rfl, hr⟩
  · exact h5 j hj
  · exact h6 j hj⟩
theorem WT.r18 {m : Wm} (h : WT m) {r : Option Nat} : WT (uR m 187 18 r) := ⟨h.1, by
  obtain ⟨h1, h2, h3, h4, h5, h6, h7, h8⟩ := h.2
  exact ⟨h1, h2, h3, h4, fun j hj => h5 j hj, fun j hj => h6 j hj, fun j hj => h7 j hj, fun j hj => h8 j hj⟩⟩
theorem SS_21 : SS 21 4 := by
  refine ⟨St_21, fun j k hj => ?_⟩
  have h : j = 0 ∨ j = 1 ∨ j = 2 ∨ j = 3 ∨ j = 4 := by omega
  rcases h with rfl | rfl | rfl | rfl | rfl
  all_goals exact ⟨rfl, rfl⟩
theorem SS_26 : SS 26 5 := by
  refine ⟨St_26, fun j k hj => ?_⟩
  have h : j = 0 ∨ j = 1 ∨ j = 2 ∨ j = 3 ∨ j = 4 := by omega
  rcases h with rfl | rfl | rfl | rfl | rfl
  all_goals exact ⟨rfl, rfl⟩
theorem SS_16 : SS 16 3 := by
  refine ⟨St_16, fun j k hj => ?_⟩
  have h : j = 0 ∨ j = 1 ∨ j = 2 ∨ j = 3 ∨ j = 4 := by omega
  rcases h with rfl | rfl | rfl | rfl | rfl
  all_goals exact ⟨rfl, rfl⟩
theorem SS_157 : SS 157 11 := by
  refine ⟨St_157, fun j k hj => ?_⟩
  have h : j = 0 ∨ j = 1 ∨ j = 2 ∨ j = 3 ∨ j = 4 := by omega
  rcases h with rfl | rfl | rfl | rfl | rfl
  all_goals exact ⟨rfl, rfl⟩
theorem SS_167 : SS 167 12 := by
  refine ⟨St_167, fun j k hj => ?_⟩
  have h : j = 0 ∨ j = 1 ∨ j = 2 ∨ j = 3 ∨ j = 4 := by omega
  rcases h with rfl | rfl | rfl | rfl | rfl
  all_goals exact ⟨rfl, rfl⟩
theorem SS_174 : SS (173 + 1) 13 := by
  refine ⟨St_174, fun j k hj => ?_⟩
  have h : j = 0 ∨ j = 1 ∨ j = 2 ∨ j = 3 ∨ j = 4 := by omega
  rcases h with rfl | rfl | rfl | rfl | rfl
  all_goals exact ⟨rfl, rfl⟩
theorem SS_181 : SS (180 + 1) 13 := by
  refine ⟨St_181, fun j k hj => ?_⟩
  have h : j = 0 ∨ j = 1 ∨ j = 2 ∨ j = 3 ∨ j = 4 := by omega
  rcases h with rfl | rfl | rfl | rfl | rfl
  all_goals exact ⟨rfl, rfl⟩
/-! one league copied over another -/
theorem s_X8_copy {ad : Nat → Nat} {d : Nat} {m : Wm} {b0 b1 ρ0 ρ1 : Nat} (w : WT m) (hb0 : SS b0 ρ0) (hb1 : SS b1 ρ1) : Ct ad μX8_copy (d + 1) [.ref (ad b0), .ref (ad b1)] m (fun r m' => WT m' ∧ Fx (RS (ρ0 :: [])) m m' ∧ r = none) := by
  have h := hb0.2
  refine v_X8_copy hb0.1 hb1.1 ⟨by decide, by decide, by decide, by decide, by decide, by decide, by decide, by decide, by decide, by decide, by decide, by decide, by decide, by decide, by decide, by decide, by decide, by decide, by decide, by decide, ?_⟩
  exact ⟨((((w.c (fun k => (h 1 k (by decide)).2)).c (fun k => (h 2 k (by decide)).2)).c (fun k => (h 3 k (by decide)).2)).c (fun k => (h 4 k (by decide)).2)).s0 h, ((((Fx.rf.c (fun k => RS_hd h (by decide))).c (fun k => RS_hd h (by decide))).c (fun k => RS_hd h (by decide))).c (fun k => RS_hd h (by decide))).i (RS_hd0 h), rfl⟩
theorem s_J6_bitCount {ad : Nat → Nat} {d : Nat} {m : Wm} {x : Int32} (w : WT m) : Ct ad μJ6_bitCount d [.int x] m (fun r m' => WT m' ∧ Fx (RS []) m m' ∧ ∃ v : Int32, r = some (.int v)) :=
  v_bitCount.to (by rintro _ _ ⟨rfl, rfl⟩; exact ⟨w, Fx.rf, _, rfl⟩)
end
