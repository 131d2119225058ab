section
/-! plain facts on numbers and arrays, to paste: each family by itself; over the kit's rows on nI and upd -/
/-! ===== order of ints, in all its forms, and through longs ===== -/
theorem fa_lt (a b : Int32) : a < b ↔ a.toInt < b.toInt := Int32.lt_iff_toInt_lt
theorem fa_le (a b : Int32) : a ≤ b ↔ a.toInt ≤ b.toInt := Int32.le_iff_toInt_le
theorem fa_eq (a b : Int32) : a = b ↔ a.toInt = b.toInt := Int32.toInt_inj.symm
theorem fa_lt64 (a b : Int64) : a < b ↔ a.toInt < b.toInt := Int64.lt_iff_toInt_lt
theorem fa_le64 (a b : Int64) : a ≤ b ↔ a.toInt ≤ b.toInt := Int64.le_iff_toInt_le
theorem fa_eq64 (a b : Int64) : a = b ↔ a.toInt = b.toInt := Int64.toInt_inj.symm
/-- a comparison of two ints taken as longs -/
theorem fa_wide_lt (a b : Int32) : a.toInt64 < b.toInt64 ↔ a < b := by rw [fa_lt64, fa_lt, Int32.toInt_toInt64, Int32.toInt_toInt64]
theorem fa_wide_le (a b : Int32) : a.toInt64 ≤ b.toInt64 ↔ a ≤ b := by rw [fa_le64, fa_le, Int32.toInt_toInt64, Int32.toInt_toInt64]
theorem fa_wide_eq (a b : Int32) : a.toInt64 = b.toInt64 ↔ a = b := by rw [fa_eq64, fa_eq, Int32.toInt_toInt64, Int32.toInt_toInt64]
/-- one strict comparison gives all the others -/
theorem fa_of_lt {a b : Int32} (h : a < b) : a ≤ b ∧ ¬ b ≤ a ∧ ¬ b < a ∧ a ≠ b ∧ b ≠ a := by
  rw [fa_lt] at h
  refine ⟨?_, ?_, ?_, ?_, ?_⟩
  · rw [fa_le]; omega
  · rw [fa_le]; omega
  · rw [fa_lt]; omega
  · intro e; rw [fa_eq] at e; omega
  · intro e; rw [fa_eq] at e; omega
theorem fa_of_nlt {a b : Int32} (h : ¬ a < b) : b ≤ a := by
  rw [fa_lt] at h
  rw [fa_le]
  omega
theorem fa_of_nle {a b : Int32} (h : ¬ a ≤ b) : b < a := by
  rw [fa_le] at h
  rw [fa_lt]
  omega
theorem fa_le_ne {a b : Int32} (h : a ≤ b) (h2 : a ≠ b) : a < b := by
  rw [fa_le] at h
  rw [fa_lt]
  have h3 : a.toInt ≠ b.toInt := fun e => h2 ((fa_eq a b).mpr e)
  omega
theorem fa_three (a b : Int32) : a < b ∨ a = b ∨ b < a := by
  rw [fa_lt, fa_lt, fa_eq]
  omega
theorem fa_trans {a b c : Int32} (h : a < b) (h2 : b ≤ c) : a < c := by
  rw [fa_lt] at *
  rw [fa_le] at h2
  omega
/-! ===== small literals as numbers ===== -/
theorem fa_lit (n : Nat) : (OfNat.ofNat n : Int32) = nI n := rfl
theorem fa_litL (n : Nat) : (OfNat.ofNat n : Int64) = lN n := rfl
/-! ===== bits of a number: 'or', masks, one bit ===== -/
theorem fa_and (a b : Nat) : nI a &&& nI b = nI (a &&& b) := by
  apply Int32.toBitVec_inj.1
  show BitVec.ofNat 32 a &&& BitVec.ofNat 32 b = BitVec.ofNat 32 (a &&& b)
  apply BitVec.eq_of_getLsbD_eq
  intro i hi
  simp [hi]
theorem fa_or (a b : Nat) : nI a ||| nI b = nI (a ||| b) := by
  apply Int32.toBitVec_inj.1
  show BitVec.ofNat 32 a ||| BitVec.ofNat 32 b = BitVec.ofNat 32 (a ||| b)
  apply BitVec.eq_of_getLsbD_eq
  intro i hi
  simp [hi]
/-- a remainder by a power of two, as a mask -/
theorem fa_mask (n k : Nat) : nI n &&& nI (2 ^ k - 1) = nI (n % 2 ^ k) := by rw [fa_and, Nat.and_two_pow_sub_one_eq_mod]
/-- 'or' of a high part and a low one that don't meet is their sum -/
theorem fa_or_sum {a k : Nat} (b : Nat) (h : a < 2 ^ k) : nI (2 ^ k * b) ||| nI a = nI (2 ^ k * b + a) := by rw [fa_or, Nat.two_pow_add_eq_or_of_lt h]
/-- one bit, by 'and' with a power of two -/
theorem fa_bit {n j : Nat} (hj : j < 31) : nI n &&& nI (2 ^ j) = 0 ↔ n.testBit j = false := by
  have h2 : (2 : Nat) ^ j < 2 ^ 31 := Nat.pow_lt_pow_right (by decide) hj
  have hle : n &&& 2 ^ j ≤ 2 ^ j := Nat.and_le_right
  have e : n &&& 2 ^ j = 0 ↔ n.testBit j = false := by
    constructor
    · intro h
      have h1 : (n &&& 2 ^ j).testBit j = false := by rw [h]; simp
      rw [Nat.testBit_and] at h1
      first | simpa using h1 | simpa [Nat.testBit_two_pow_self] using h1 | simpa [Nat.testBit_two_pow] using h1
    · intro h
      apply Nat.eq_of_testBit_eq
      intro i
      rw [Nat.testBit_and]
      by_cases hi : j = i
      · subst hi; simp [h]
      · first | (simp [Nat.testBit_two_pow, hi]; done) | (simp [Nat.testBit_two_pow_of_ne hi]; done)
  rw [fa_and]
  constructor
  · intro h
    apply e.mp
    rcases Nat.eq_zero_or_pos (n &&& 2 ^ j) with z | z
    · exact z
    · exact absurd h (nI_ne0 z (Nat.lt_of_le_of_lt hle h2))
  · intro h
    rw [e.mpr h]; exact nI_0
/-- a remainder by a power of two of a number that isn't negative, as Java divides -/
theorem fa_rem {a k : Nat} (ha : a < 2 ^ 31) (hk : k < 31) : nI a - nI a / nI (2 ^ k) * nI (2 ^ k) = nI (a % 2 ^ k) := pk_rem ha (Nat.two_pow_pos k) (Nat.pow_lt_pow_right (by decide) hk)
/-! ===== cuts to a byte, a short ===== -/
theorem fa_byte_xor (x y : Int32) : (x ^^^ y).toInt8 = x.toInt8 ^^^ y.toInt8 := by
  apply Int8.toBitVec_inj.1
  apply BitVec.eq_of_getLsbD_eq
  intro i hi
  first | (simp [hi]; done) | (simp [hi, BitVec.getLsbD_setWidth, BitVec.getLsbD_signExtend]; done)
theorem fa_short_xor (x y : Int32) : (x ^^^ y).toInt16 = x.toInt16 ^^^ y.toInt16 := by
  apply Int16.toBitVec_inj.1
  apply BitVec.eq_of_getLsbD_eq
  intro i hi
  first | (simp [hi]; done) | (simp [hi, BitVec.getLsbD_setWidth, BitVec.getLsbD_signExtend]; done)
/-- the cut to a byte sees the low byte alone -/
theorem fa_byte_low (x : Int32) : (x &&& 255).toInt8 = x.toInt8 := by
  apply Int8.toBitVec_inj.1
  apply BitVec.eq_of_getLsbD_eq
  intro i hi
  have h2 : (255 : Int32).toBitVec.getLsbD i = true := by
    have : ∀ j : Fin 8, (255 : Int32).toBitVec.getLsbD j.val = true := by decide +kernel
    exact this ⟨i, hi⟩
  have h4 : (x &&& 255).toBitVec.getLsbD i = x.toBitVec.getLsbD i := by
    show (x.toBitVec &&& (255 : Int32).toBitVec).getLsbD i = _
    rw [BitVec.getLsbD_and, h2, Bool.and_true]
  have h3 : i < 32 := by omega
  first
    | (show (((x &&& 255).toBitVec).signExtend 8).getLsbD i = (x.toBitVec.signExtend 8).getLsbD i; rw [BitVec.getLsbD_signExtend, BitVec.getLsbD_signExtend, if_pos h3, if_pos h3, h4])
    | (show (((x &&& 255).toBitVec).setWidth 8).getLsbD i = (x.toBitVec.setWidth 8).getLsbD i; rw [BitVec.getLsbD_setWidth, BitVec.getLsbD_setWidth, h4])
    | (simp [hi, h3, h4]; done)
theorem fa_short_low (x : Int32) : (x &&& 65535).toInt16 = x.toInt16 := by
  apply Int16.toBitVec_inj.1
  apply BitVec.eq_of_getLsbD_eq
  intro i hi
  have h2 : (65535 : Int32).toBitVec.getLsbD i = true := by
    have : ∀ j : Fin 16, (65535 : Int32).toBitVec.getLsbD j.val = true := by decide +kernel
    exact this ⟨i, hi⟩
  have h4 : (x &&& 65535).toBitVec.getLsbD i = x.toBitVec.getLsbD i := by
    show (x.toBitVec &&& (65535 : Int32).toBitVec).getLsbD i = _
    rw [BitVec.getLsbD_and, h2, Bool.and_true]
  have h3 : i < 32 := by omega
  first
    | (show (((x &&& 65535).toBitVec).signExtend 16).getLsbD i = (x.toBitVec.signExtend 16).getLsbD i; rw [BitVec.getLsbD_signExtend, BitVec.getLsbD_signExtend, if_pos h3, if_pos h3, h4])
    | (show (((x &&& 65535).toBitVec).setWidth 16).getLsbD i = (x.toBitVec.setWidth 16).getLsbD i; rw [BitVec.getLsbD_setWidth, BitVec.getLsbD_setWidth, h4])
    | (simp [hi, h3, h4]; done)
/-- a small number is its own byte, its own short -/
theorem fa_byte_small {n : Nat} (h : n < 128) : (nI n).toInt8.toInt32 = nI n := by
  have : ∀ j : Fin 128, (nI j.val).toInt8.toInt32 = nI j.val := by decide +kernel
  exact this ⟨n, h⟩
/-! ===== absolute difference ===== -/
theorem fa_absdiff {a b : Nat} (ha : a < 2 ^ 31) (hb : b < 2 ^ 31) : (if nI a < nI b then nI b - nI a else nI a - nI b) = nI (if a < b then b - a else a - b) := by
  by_cases h : a < b
  · rw [if_pos (nI_lt h hb), if_pos h]
    exact pk_sub (Nat.le_of_lt h)
  · rw [if_neg (nI_nlt (Nat.le_of_not_lt h) ha), if_neg h]
    exact pk_sub (Nat.le_of_not_lt h)
/-! ===== an array behind i stores, a conditional store, a row copied ===== -/
/-- f where k < i, what stood there else -/
def fa_fill {α : Type} (f g : Nat → α) (i : Nat) : Nat → α := fun k => if k < i then f k else g k
theorem fa_fill_0 {α : Type} (f g : Nat → α) : fa_fill f g 0 = g := funext fun k => if_neg (Nat.not_lt_zero k)
theorem fa_fill_in {α : Type} {f g : Nat → α} {i k : Nat} (h : k < i) : fa_fill f g i k = f k := if_pos h
theorem fa_fill_out {α : Type} {f g : Nat → α} {i k : Nat} (h : i ≤ k) : fa_fill f g i k = g k := if_neg (Nat.not_lt.mpr h)
theorem fa_fill_succ (f g : Nat → Int32) (i : Nat) : upd (fa_fill f g i) i (f i) = fa_fill f g (i + 1) := by
  funext k
  by_cases e : k = i
  · subst e
    rw [pk_us]
    exact (if_pos (Nat.lt_succ_self k)).symm
  · rw [pk_un e]
    by_cases h : k < i
    · rw [fa_fill_in h, fa_fill_in (Nat.lt_succ_of_lt h)]
    · rw [fa_fill_out (Nat.le_of_not_lt h), fa_fill_out (by omega)]
/-- a store that changes nothing -/
theorem fa_upd_same {f : Nat → Int32} {i : Nat} {x : Int32} (h : f i = x) : upd f i x = f := by
  funext k
  by_cases e : k = i
  · subst e
    rw [pk_us, h]
  · rw [pk_un e]
/-- a store under a condition, told as one -/
theorem fa_upd_if (c : Prop) [Decidable c] (f : Nat → Int32) (i : Nat) (x : Int32) : (if c then upd f i x else f) = upd f i (if c then x else f i) := by
  by_cases h : c
  · rw [if_pos h, if_pos h]
  · rw [if_neg h, if_neg h, fa_upd_same rfl]
/-- two stores at one place, at two -/
theorem fa_upd_twice (f : Nat → Int32) (i : Nat) (x y : Int32) : upd (upd f i x) i y = upd f i y := by
  funext k
  by_cases e : k = i
  · subst e
    rw [pk_us, pk_us]
  · rw [pk_un e, pk_un e, pk_un e]
theorem fa_upd_swap (f : Nat → Int32) {i j : Nat} (h : i ≠ j) (x y : Int32) : upd (upd f i x) j y = upd (upd f j y) i x := by
  funext k
  by_cases e : k = i
  · subst e
    rw [pk_un h, pk_us, pk_us]
  · by_cases e2 : k = j
    · subst e2
      rw [pk_us, pk_un e, pk_us]
    · rw [pk_un e2, pk_un e, pk_un e, pk_un e2]
/-! ===== the first index with a property; a count ===== -/
/-- the first k < n with p k, n if there is none -/
def fa_first (p : Nat → Bool) : Nat → Nat
  | 0 => 0
  | n + 1 => if fa_first p n < n then fa_first p n else if p n then n else n + 1
theorem fa_first_le (p : Nat → Bool) : ∀ n, fa_first p n ≤ n
  | 0 => Nat.le_refl 0
  | n + 1 => by
    have ih := fa_first_le p n
    unfold fa_first
    split
    · omega
    · split
      · omega
      · omega
theorem fa_first_no (p : Nat → Bool) : ∀ n k, k < fa_first p n → p k = false
  | 0, k, h => absurd h (Nat.not_lt_zero k)
  | n + 1, k, h => by
    have ih := fa_first_no p n
    have hl := fa_first_le p n
    unfold fa_first at h
    split at h
    · exact ih k h
    · rename_i h1
      split at h
      · exact ih k (by omega)
      · rename_i h2
        by_cases e : k = n
        · subst e
          exact Bool.eq_false_iff.mpr h2
        · exact ih k (by omega)
theorem fa_first_yes (p : Nat → Bool) : ∀ n, fa_first p n < n → p (fa_first p n) = true
  | 0, h => absurd h (Nat.not_lt_zero _)
  | n + 1, h => by
    have ih := fa_first_yes p n
    have hl := fa_first_le p n
    unfold fa_first at h ⊢
    split at h
    · rename_i h1
      rw [if_pos h1]
      exact ih h1
    · rename_i h1
      rw [if_neg h1]
      split at h
      · rename_i h2
        rw [if_pos h2]
        exact h2
      · omega
/-- how many k < n have p k -/
def fa_cnt (p : Nat → Bool) : Nat → Nat
  | 0 => 0
  | n + 1 => fa_cnt p n + if p n then 1 else 0
theorem fa_cnt_le (p : Nat → Bool) : ∀ n, fa_cnt p n ≤ n
  | 0 => Nat.le_refl 0
  | n + 1 => by
    have ih := fa_cnt_le p n
    unfold fa_cnt
    split
    · omega
    · omega
theorem fa_cnt_yes {p : Nat → Bool} {n : Nat} (h : p n = true) : fa_cnt p (n + 1) = fa_cnt p n + 1 := by rw [fa_cnt, if_pos h]
theorem fa_cnt_no {p : Nat → Bool} {n : Nat} (h : p n = false) : fa_cnt p (n + 1) = fa_cnt p n := by rw [fa_cnt, if_neg (by rw [h]; decide)]; rfl
theorem fa_cnt_cong {p q : Nat → Bool} : ∀ {n : Nat}, (∀ k, k < n → p k = q k) → fa_cnt p n = fa_cnt q n
  | 0, _ => rfl
  | n + 1, h => by rw [fa_cnt, fa_cnt, fa_cnt_cong (fun k hk => h k (Nat.lt_succ_of_lt hk)), h n (Nat.lt_succ_self n)]
/-! ===== an answer carried into a post; a branch on a boolean answer ===== -/
theorem fa_post {α : Type} {P : α → Prop} {x y : α} (h : x = y) (hp : P y) : P x := h ▸ hp
theorem fa_post2 {α β : Type} {P : α → β → Prop} {x y : α} {u v : β} (h : x = y) (h2 : u = v) (hp : P y v) : P x u := h ▸ h2 ▸ hp
theorem fa_bool {r : Int32} {b : Bool} (h : r = if b then 1 else 0) : (r = 0 ↔ b = false) ∧ (¬ r = 0 ↔ b = true) := by
  subst h
  cases b
  · exact ⟨⟨fun _ => rfl, fun _ => rfl⟩, ⟨fun h => absurd rfl h, fun h => absurd h (by decide)⟩⟩
  · exact ⟨⟨fun h => absurd h (by decide), fun h => absurd h (by decide)⟩, ⟨fun _ => rfl, fun _ => by decide⟩⟩
/-- a boolean's narrowing changes nothing -/
theorem fa_bool_and {r : Int32} (h : r = 0 ∨ r = 1) : r &&& 1 = r := by
  rcases h with rfl | rfl
  · decide
  · decide
theorem fa_bool_prop {c : Prop} [Decidable c] {r : Int32} (h : r = if c then 1 else 0) : (r = 0 ↔ ¬ c) ∧ (¬ r = 0 ↔ c) := by
  subst h
  by_cases hc : c
  · rw [if_pos hc]
    exact ⟨⟨fun h => absurd h (by decide), fun h => absurd hc h⟩, ⟨fun _ => hc, fun _ => by decide⟩⟩
  · rw [if_neg hc]
    exact ⟨⟨fun _ => hc, fun _ => rfl⟩, ⟨fun h => absurd rfl h, fun h => absurd h hc⟩⟩
/-! rows on bits, shifts and unsigned numbers, to paste: each family out of a closed proof of our own, whole with what it rests on; each by itself clean at Lean in its own claim (generation 39, form 5). Take a family whole -/
/-! ===== Int32 by its bits: bt x i ===== -/
def bt (x : Int32) (i : Nat) : Bool := x.toBitVec.getLsbD i
theorem b_ext {x y : Int32} (h : ∀ i, i < 32 → bt x i = bt y i) : x = y := Int32.toBitVec_inj.mp (BitVec.eq_of_getLsbD_eq (fun i hi => h i hi))
theorem b_or (x y : Int32) (i : Nat) : bt (x ||| y) i = (bt x i || bt y i) := by unfold bt; rw [Int32.toBitVec_or, BitVec.getLsbD_or]
theorem b_and (x y : Int32) (i : Nat) : bt (x &&& y) i = (bt x i && bt y i) := by unfold bt; rw [Int32.toBitVec_and, BitVec.getLsbD_and]
theorem b_xor (x y : Int32) (i : Nat) : bt (x ^^^ y) i = (bt x i ^^ bt y i) := by unfold bt; rw [Int32.toBitVec_xor, BitVec.getLsbD_xor]
theorem b_big {x : Int32} {i : Nat} (h : 32 ≤ i) : bt x i = false := BitVec.getLsbD_of_ge _ _ h
theorem b_255 (i : Nat) : bt 255 i = decide (i < 8) := by
  rcases Nat.lt_or_ge i 32 with h | h
  · exact (by decide +kernel : ∀ i, i < 32 → bt 255 i = decide (i < 8)) i h
  · rw [b_big h, decide_eq_false (by omega)]
theorem b_65535 (i : Nat) : bt 65535 i = decide (i < 16) := by
  rcases Nat.lt_or_ge i 32 with h | h
  · exact (by decide +kernel : ∀ i, i < 32 → bt 65535 i = decide (i < 16)) i h
  · rw [b_big h, decide_eq_false (by omega)]
theorem b_m1 : ∀ i, i < 32 → bt (-1) i = true := by decide +kernel
theorem b_0 (i : Nat) : bt 0 i = false := BitVec.getLsbD_zero
theorem s_l : ∀ n, n < 32 → ((nI n &&& 31).toBitVec.smod 32).toNat = n := by decide +kernel
theorem s_u : ∀ n, n < 32 → (((nI n).toUInt32 &&& Int32.toUInt32 31).toBitVec % 32).toNat = n := by decide +kernel
theorem b_shl (n : Nat) (hn : n < 32) (x : Int32) {i : Nat} (hi : i < 32) : bt (x <<< (nI n &&& 31)) i = (decide (n ≤ i) && bt x (i - n)) := by
  unfold bt
  rw [Int32.toBitVec_shiftLeft]
  show (x.toBitVec <<< ((nI n &&& 31).toBitVec.smod 32).toNat).getLsbD i = _
  rw [s_l n hn, BitVec.getLsbD_shiftLeft]
  rcases Nat.lt_or_ge i n with h | h
  · simp [h, Nat.not_le.mpr h]
  · simp [hi, h, Nat.not_lt.mpr h]
theorem b_ushr (n : Nat) (hn : n < 32) (x : Int32) (i : Nat) : bt ((x.toUInt32 >>> ((nI n).toUInt32 &&& Int32.toUInt32 31)).toInt32) i = bt x (n + i) := by
  show (x.toUInt32 >>> ((nI n).toUInt32 &&& Int32.toUInt32 31)).toBitVec.getLsbD i = x.toUInt32.toBitVec.getLsbD (n + i)
  rw [UInt32.toBitVec_shiftRight]
  show (x.toUInt32.toBitVec >>> (((nI n).toUInt32 &&& Int32.toUInt32 31).toBitVec % 32).toNat).getLsbD i = _
  rw [s_u n hn, BitVec.getLsbD_ushiftRight]
theorem b_sshr (n : Nat) (hn : n < 32) (x : Int32) {i : Nat} (hi : i < 32) : bt (x >>> (nI n &&& 31)) i = if n + i < 32 then bt x (n + i) else bt x 31 := by
  unfold bt
  rw [Int32.toBitVec_shiftRight]
  show (x.toBitVec.sshiftRight ((nI n &&& 31).toBitVec.smod 32).toNat).getLsbD i = _
  rw [s_l n hn, BitVec.getLsbD_sshiftRight, BitVec.msb_eq_getLsbD_last]
  simp [hi]
theorem b_shl8 (x : Int32) {i : Nat} (hi : i < 32) : bt (x <<< ((8 : Int32) &&& 31)) i = (decide (8 ≤ i) && bt x (i - 8)) := b_shl 8 (by omega) x hi
theorem b_shl16 (x : Int32) {i : Nat} (hi : i < 32) : bt (x <<< ((16 : Int32) &&& 31)) i = (decide (16 ≤ i) && bt x (i - 16)) := b_shl 16 (by omega) x hi
theorem b_shl24 (x : Int32) {i : Nat} (hi : i < 32) : bt (x <<< ((24 : Int32) &&& 31)) i = (decide (24 ≤ i) && bt x (i - 24)) := b_shl 24 (by omega) x hi
theorem b_sshr8 (x : Int32) {i : Nat} (hi : i < 32) : bt (x >>> ((8 : Int32) &&& 31)) i = if 8 + i < 32 then bt x (8 + i) else bt x 31 := b_sshr 8 (by omega) x hi
/-! ===== nI under and, xor, >>>, one bit, 65535 ===== -/
theorem nx_and (a b : Nat) : nI a &&& nI b = nI (a &&& b) := by
  apply Int32.toBitVec_inj.1
  show BitVec.ofNat 32 a &&& BitVec.ofNat 32 b = BitVec.ofNat 32 (a &&& b)
  apply BitVec.eq_of_getLsbD_eq
  intro i hi
  simp [hi]
theorem nx_xor (a b : Nat) : nI a ^^^ nI b = nI (a ^^^ b) := by
  apply Int32.toBitVec_inj.1
  show BitVec.ofNat 32 a ^^^ BitVec.ofNat 32 b = BitVec.ofNat 32 (a ^^^ b)
  apply BitVec.eq_of_getLsbD_eq
  intro i hi
  simp [hi]
theorem nx_cnt : ∀ j : Fin 32, (UInt32.ofNat j.val &&& Int32.toUInt32 31).toNat % 32 = j.val := by decide +kernel
theorem nx_ush {k j : Nat} (hk : k < 65536) (hj : j < 32) : ((nI k).toUInt32 >>> ((nI j).toUInt32 &&& Int32.toUInt32 31)).toInt32 = nI (k >>> j) := by
  have hs : k >>> j ≤ k := by
    rw [Nat.shiftRight_eq_div_pow]
    exact Nat.div_le_self _ _
  have e2 : UInt32.ofNat k >>> (UInt32.ofNat j &&& Int32.toUInt32 31) = UInt32.ofNat (k >>> j) := by
    apply UInt32.toNat_inj.1
    have h1 : (UInt32.ofNat k).toNat = k := Nat.mod_eq_of_lt (by omega)
    have h2 : (UInt32.ofNat (k >>> j)).toNat = k >>> j := Nat.mod_eq_of_lt (by omega)
    rw [UInt32.toNat_shiftRight, nx_cnt ⟨j, hj⟩, h1, h2]
  show (UInt32.ofNat k >>> (UInt32.ofNat j &&& Int32.toUInt32 31)).toInt32 = _
  rw [e2]
  rfl
theorem nx_bit {k j : Nat} (hk : k < 65536) (hj : j < 16) : (((nI k).toUInt32 >>> ((nI j).toUInt32 &&& Int32.toUInt32 31)).toInt32 &&& 1) = 0 ↔ k.testBit j = false := by
  rw [nx_ush hk (by omega)]
  show nI (k >>> j) &&& nI 1 = 0 ↔ _
  rw [nx_and, Nat.and_one_is_mod, ← nI_0, nI_eq (by omega) (by omega), Nat.testBit_eq_decide_div_mod_eq, Nat.shiftRight_eq_div_pow, decide_eq_false_iff_not]
  generalize k / 2 ^ j = z
  omega
theorem nx_mod (k : Nat) : nI k &&& 65535 = nI (k % 65536) := by
  show nI k &&& nI 65535 = _
  rw [nx_and, show (65535 : Nat) = 2 ^ 16 - 1 from rfl, Nat.and_two_pow_sub_one_eq_mod]
theorem nx_m16 {k : Nat} (h : k < 65536) : nI k &&& 65535 = nI k := by rw [nx_mod, Nat.mod_eq_of_lt h]
theorem nx_mask (x : Int32) : ∃ k, k < 65536 ∧ x &&& 65535 = nI k := by
  have e : x = nI x.toBitVec.toNat := by
    apply Int32.toBitVec_inj.1
    show x.toBitVec = BitVec.ofNat 32 x.toBitVec.toNat
    simp
  refine ⟨x.toBitVec.toNat % 65536, Nat.mod_lt _ (by omega), ?_⟩
  rw [← nx_mod, ← e]
/-! ===== Int32 as a set of bits: test, set ===== -/
def nf_M (m : Int32) : Nat := 4294967296 - m.toBitVec.toNat
theorem nf_sh : ∀ l, l < 32 → ((1 : Int32) <<< (nI l &&& 31)).toBitVec = BitVec.twoPow 32 l := by decide +kernel
theorem nf_sl : ∀ l, l < 32 → (((nI l).toUInt32 &&& Int32.toUInt32 31).toBitVec % 32).toNat = l := by decide +kernel
theorem nf_tp : ∀ l, l < 32 → BitVec.twoPow 32 l ≠ 0#32 := by decide +kernel
theorem nf_bit (m : Int32) (l : Nat) (hl : l < 32) : ((m.toUInt32 >>> ((nI l).toUInt32 &&& Int32.toUInt32 31)).toInt32 &&& 1) = 0 ↔ (m &&& ((1 : Int32) <<< (nI l &&& 31))) = 0 := by
  have e : ((m.toUInt32 >>> ((nI l).toUInt32 &&& Int32.toUInt32 31)).toInt32).toBitVec = m.toBitVec >>> l := by
    show m.toBitVec >>> (((nI l).toUInt32 &&& Int32.toUInt32 31).toBitVec % 32) = m.toBitVec >>> l
    rw [BitVec.ushiftRight_eq', nf_sl l hl]
  rw [← Int32.toBitVec_inj, ← Int32.toBitVec_inj, Int32.toBitVec_and, Int32.toBitVec_and, nf_sh l hl, e, BitVec.and_twoPow]
  show (m.toBitVec >>> l &&& 1#32) = 0#32 ↔ _ = 0#32
  rw [BitVec.and_one_eq_setWidth_ofBool_getLsbD, BitVec.getLsbD_ushiftRight, Nat.add_zero]
  cases hb : m.toBitVec.getLsbD l
  · exact ⟨fun _ => by simp, fun _ => by decide⟩
  · exact ⟨fun z => absurd z (by decide), fun z => absurd ((if_pos rfl).symm.trans z) (nf_tp l hl)⟩
theorem nf_gr (m k : Int32) (h : m &&& k = 0) (hk : k ≠ 0) : nf_M (m ||| k) < nf_M m := by
  have hm := m.toBitVec.isLt
  have hm' := (m ||| k).toBitVec.isLt
  have h1 : m.toBitVec.toNat ≤ (m ||| k).toBitVec.toNat := by
    rw [Int32.toBitVec_or, BitVec.toNat_or]
    exact Nat.left_le_or
  have h2 : m.toBitVec.toNat ≠ (m ||| k).toBitVec.toNat := by
    intro e
    have e2 : m = m ||| k := Int32.toBitVec_inj.mp (BitVec.eq_of_toNat_eq e)
    apply hk
    apply Int32.toBitVec_inj.mp
    show k.toBitVec = 0#32
    apply BitVec.eq_of_getLsbD_eq
    intro i hi
    have a : m.toBitVec.getLsbD i = (m.toBitVec.getLsbD i || k.toBitVec.getLsbD i) := by rw [← BitVec.getLsbD_or, ← Int32.toBitVec_or, ← e2]
    have b : (m.toBitVec.getLsbD i && k.toBitVec.getLsbD i) = false := by
      rw [← BitVec.getLsbD_and, ← Int32.toBitVec_and, h]
      exact BitVec.getLsbD_zero
    rw [BitVec.getLsbD_zero]
    revert a b
    cases m.toBitVec.getLsbD i <;> cases k.toBitVec.getLsbD i <;> simp
  unfold nf_M
  omega
/-! ===== a byte read unsigned ===== -/
theorem bp_b (x : Int32) : x.toInt8.toInt32 &&& 255 = x &&& 255 := by
  apply Int32.toBitVec_inj.mp
  rw [Int32.toBitVec_and, Int32.toBitVec_and, Int8.toBitVec_toInt32, Int32.toBitVec_toInt8]
  apply BitVec.eq_of_getLsbD_eq
  intro i hi
  rw [BitVec.getLsbD_and, BitVec.getLsbD_and]
  have hm : ∀ i < 32, 8 ≤ i → (255 : Int32).toBitVec.getLsbD i = false := by decide
  rcases Nat.lt_or_ge i 8 with z | z
  · rw [BitVec.getLsbD_signExtend, BitVec.getLsbD_signExtend, if_pos z, if_pos hi]
    simp only [z, hi, decide_true, Bool.true_and]
  · rw [hm i hi z]; simp
/-! ===== the char cast and 65535 ===== -/
/-! ===== Int64 as a set of bits: test, set, clear ===== -/
theorem ts_nf {x : Bool} (h : ¬ x = false) : x = true := by cases x <;> first | rfl | exact absurd rfl h
theorem ts_nt {x : Bool} (h : ¬ x = true) : x = false := by cases x <;> first | rfl | exact absurd rfl h
theorem ts_bit {w : Int64} {s : UInt64} {j : Nat} (hj : j < 64) (hs : s.toNat = j) : ((w.toUInt64 >>> s).toInt64 &&& 1) = 0 ↔ w.toBitVec.getLsbD j = false := by
  have e : (w.toUInt64 >>> s).toInt64.toBitVec = w.toBitVec >>> j := by
    apply BitVec.eq_of_toNat_eq
    show (w.toUInt64 >>> s).toNat = _
    rw [UInt64.toNat_shiftRight, hs, Nat.mod_eq_of_lt hj, BitVec.toNat_ushiftRight]
    rfl
  rw [← Int64.toBitVec_inj, Int64.toBitVec_and, e]
  show w.toBitVec >>> j &&& 1#64 = 0#64 ↔ _
  constructor
  · intro h
    have t := congrArg (fun x => x.getLsbD 0) h
    simpa using t
  · intro h
    apply BitVec.eq_of_getLsbD_eq
    intro i hi
    cases i with
    | zero => simp [h]
    | succ i => simp
theorem ts_or {w m : Int64} {j : Nat} (hj : j < 64) (hm : m.toBitVec = BitVec.twoPow 64 j) : (w ||| m) = w ↔ w.toBitVec.getLsbD j = true := by
  rw [← Int64.toBitVec_inj, Int64.toBitVec_or, hm]
  constructor
  · intro h
    have t := congrArg (fun x => x.getLsbD j) h
    simp only [BitVec.getLsbD_or, BitVec.getLsbD_twoPow] at t
    simpa [hj] using t.symm
  · intro h
    apply BitVec.eq_of_getLsbD_eq
    intro i hi
    rw [BitVec.getLsbD_or, BitVec.getLsbD_twoPow]
    by_cases e : j = i
    · subst e; rw [h, Bool.true_or]
    · simp [e]
theorem ts_and {w m : Int64} {j : Nat} (hj : j < 64) (hm : m.toBitVec = BitVec.twoPow 64 j) : (w &&& (m ^^^ (-1))) = w ↔ w.toBitVec.getLsbD j = false := by
  have ha : (-1 : Int64).toBitVec = BitVec.allOnes 64 := by decide
  rw [← Int64.toBitVec_inj, Int64.toBitVec_and, Int64.toBitVec_xor, hm, ha]
  constructor
  · intro h
    have t := congrArg (fun x => x.getLsbD j) h
    simp only [BitVec.getLsbD_and, BitVec.getLsbD_xor, BitVec.getLsbD_twoPow, BitVec.getLsbD_allOnes] at t
    simpa [hj] using t.symm
  · intro h
    apply BitVec.eq_of_getLsbD_eq
    intro i hi
    rw [BitVec.getLsbD_and, BitVec.getLsbD_xor, BitVec.getLsbD_twoPow, BitVec.getLsbD_allOnes]
    by_cases e : j = i
    · subst e; rw [h, Bool.false_and]
    · simp [e, hi]
/-! ===== lN n to 2^64: shifts, and, or, masks, one bit ===== -/
theorem wb_tb (n : Nat) : (lN n).toBitVec = BitVec.ofNat 64 n := rfl
theorem wb_inj {a b : Int64} (h : a.toBitVec = b.toBitVec) : a = b := Int64.toBitVec_inj.mp h
theorem wb_tn {n : Nat} (h : n < 2 ^ 64) : (lN n).toBitVec.toNat = n := by rw [wb_tb, BitVec.toNat_ofNat, Nat.mod_eq_of_lt h]
theorem wb_of (x : Int64) : ∃ n, n < 2 ^ 64 ∧ x = lN n := ⟨x.toBitVec.toNat, x.toBitVec.isLt, wb_inj (by rw [wb_tb]; simp)⟩
theorem wb_of32 (x : Int32) : ∃ n, n < 2 ^ 32 ∧ x = nI n := ⟨x.toBitVec.toNat, x.toBitVec.isLt, Int32.toBitVec_inj.mp (by show _ = BitVec.ofNat 32 _; simp)⟩
theorem wb_c : ∀ k, k < 64 → ((nI k).toInt64 &&& 63) = lN k := by decide +kernel
theorem wb_cu : ∀ k, k < 64 → ((nI k).toInt64.toUInt64 &&& Int64.toUInt64 63) = UInt64.ofNat k := by decide +kernel
theorem wb_sm : ∀ k, k < 64 → (BitVec.ofNat 64 k).smod 64 = BitVec.ofNat 64 k := by decide +kernel
theorem wb_pw {a b : Nat} (h : a ≤ b) : 2 ^ b = 2 ^ a * 2 ^ (b - a) := by rw [← Nat.pow_add]; congr 1; omega
theorem wb_lt2 {a b : Nat} (h : a < b) : 2 ^ a < 2 ^ b := Nat.pow_lt_pow_right (by decide) h
theorem wb_mod (n : Nat) : lN n = lN (n % 2 ^ 64) := wb_inj (by rw [wb_tb, wb_tb]; apply BitVec.eq_of_toNat_eq; rw [BitVec.toNat_ofNat, BitVec.toNat_ofNat, Nat.mod_mod])
theorem wb_shr {n k : Nat} (hn : n < 2 ^ 64) (hk : k < 64) : ((lN n).toUInt64 >>> ((nI k).toInt64.toUInt64 &&& Int64.toUInt64 63)).toInt64 = lN (n / 2 ^ k) := by
  rw [wb_cu k hk]
  apply wb_inj
  apply BitVec.eq_of_toNat_eq
  show ((lN n).toUInt64 >>> UInt64.ofNat k).toNat = (BitVec.ofNat 64 _).toNat
  have h1 : (UInt64.ofNat k).toNat = k := by
    show (BitVec.ofNat 64 k).toNat = k
    rw [BitVec.toNat_ofNat, Nat.mod_eq_of_lt (by omega)]
  have h2 : (lN n).toUInt64.toNat = n := wb_tn hn
  rw [UInt64.toNat_shiftRight, h1, h2, Nat.mod_eq_of_lt hk, Nat.shiftRight_eq_div_pow, BitVec.toNat_ofNat, Nat.mod_eq_of_lt (Nat.lt_of_le_of_lt (Nat.div_le_self _ _) hn)]
theorem wb_shl (n : Nat) {k : Nat} (hk : k < 64) : lN n <<< ((nI k).toInt64 &&& 63) = lN (n * 2 ^ k) := by
  rw [wb_c k hk]
  apply wb_inj
  rw [Int64.toBitVec_shiftLeft, wb_tb, wb_tb, wb_tb, wb_sm k hk]
  apply BitVec.eq_of_toNat_eq
  rw [BitVec.shiftLeft_eq', BitVec.toNat_shiftLeft, BitVec.toNat_ofNat, BitVec.toNat_ofNat, BitVec.toNat_ofNat, Nat.mod_eq_of_lt (show k < 2 ^ 64 by omega), Nat.shiftLeft_eq, Nat.mul_mod, Nat.mod_mod, ← Nat.mul_mod]
theorem wb_and {a b : Nat} (ha : a < 2 ^ 64) (hb : b < 2 ^ 64) : lN a &&& lN b = lN (a &&& b) := by
  apply wb_inj
  rw [Int64.toBitVec_and, wb_tb, wb_tb, wb_tb]
  apply BitVec.eq_of_toNat_eq
  rw [BitVec.toNat_and, BitVec.toNat_ofNat, BitVec.toNat_ofNat, BitVec.toNat_ofNat, Nat.mod_eq_of_lt ha, Nat.mod_eq_of_lt hb, Nat.mod_eq_of_lt (Nat.and_lt_two_pow _ hb)]
theorem wb_or {a b : Nat} (ha : a < 2 ^ 64) (hb : b < 2 ^ 64) : lN a ||| lN b = lN (a ||| b) := by
  apply wb_inj
  rw [Int64.toBitVec_or, wb_tb, wb_tb, wb_tb]
  apply BitVec.eq_of_toNat_eq
  rw [BitVec.toNat_or, BitVec.toNat_ofNat, BitVec.toNat_ofNat, BitVec.toNat_ofNat, Nat.mod_eq_of_lt ha, Nat.mod_eq_of_lt hb, Nat.mod_eq_of_lt (Nat.or_lt_two_pow ha hb)]
theorem wb_mask {n k : Nat} (hn : n < 2 ^ 64) (hk : k < 64) : lN n &&& lN (2 ^ k - 1) = lN (n % 2 ^ k) := by
  rw [wb_and hn (by have := wb_lt2 hk; omega), Nat.and_two_pow_sub_one_eq_mod]
theorem wb_a1 {n : Nat} (hn : n < 2 ^ 64) : lN n &&& 1 = lN (n % 2) := wb_mask (k := 1) hn (by decide)
theorem wb_bit {n k : Nat} (hn : n < 2 ^ 64) (hk : k < 64) : ((lN n).toUInt64 >>> ((nI k).toInt64.toUInt64 &&& Int64.toUInt64 63)).toInt64 &&& 1 = lN (n / 2 ^ k % 2) := by
  rw [wb_shr hn hk, wb_a1 (Nat.lt_of_le_of_lt (Nat.div_le_self _ _) hn)]
theorem wb_xor {q k : Nat} (hk : k < 63) (h : 2 ^ k ≤ q) (h2 : q < 2 ^ (k + 1)) : lN q ^^^ lN (2 ^ k) = lN (q - 2 ^ k) := by
  obtain ⟨r, rfl⟩ : ∃ r, q = 2 ^ k + r := ⟨q - 2 ^ k, by omega⟩
  have hr : r < 2 ^ k := by rw [Nat.pow_succ] at h2; omega
  have hx : (2 ^ k + r) ^^^ 2 ^ k = r := by
    apply Nat.eq_of_testBit_eq
    intro i
    rw [Nat.testBit_xor, Nat.testBit_two_pow]
    rcases Nat.lt_trichotomy i k with h | h | h
    · rw [Nat.testBit_two_pow_add_gt h]
      simp [show ¬ k = i by omega]
    · subst h
      rw [Nat.testBit_two_pow_add_eq]
      simp
    · have a1 : 2 ^ (k + 1) ≤ 2 ^ i := Nat.pow_le_pow_right (by decide) h
      rw [Nat.testBit_lt_two_pow (show 2 ^ k + r < 2 ^ i by omega), Nat.testBit_lt_two_pow (show r < 2 ^ i by omega)]
      simp [show ¬ k = i by omega]
  have b1 := wb_lt2 (show k + 1 < 64 by omega)
  have b2 := wb_lt2 (show k < 64 by omega)
  apply wb_inj
  rw [Int64.toBitVec_xor, wb_tb, wb_tb, wb_tb]
  apply BitVec.eq_of_toNat_eq
  rw [BitVec.toNat_xor, BitVec.toNat_ofNat, BitVec.toNat_ofNat, BitVec.toNat_ofNat, Nat.mod_eq_of_lt (by omega : 2 ^ k + r < 2 ^ 64), Nat.mod_eq_of_lt b2, hx, Nat.add_sub_cancel_left, Nat.mod_eq_of_lt (by omega)]
/-! ===== lN: masks, 'or' of parts that don't overlap is a sum ===== -/
theorem u_tn {n : Nat} (h : n < 2 ^ 64) : (UInt64.ofNat n).toNat = n := Nat.mod_eq_of_lt h
theorem g_and {a b c : Nat} (ha : a < 2 ^ 64) (hb : b < 2 ^ 64) (hc : a &&& b = c) : lN a &&& lN b = lN c := by
  subst hc
  have h : UInt64.ofNat a &&& UInt64.ofNat b = UInt64.ofNat (a &&& b) := UInt64.toNat_inj.mp (by rw [UInt64.toNat_and, u_tn ha, u_tn hb, u_tn (Nat.and_lt_two_pow a hb)])
  have h2 := congrArg UInt64.toInt64 h
  exact h2
theorem g_and1 {a : Nat} (ha : a < 2 ^ 64) : lN a &&& 1 = lN (a % 2) := g_and (b := 1) ha (by decide) (Nat.and_two_pow_sub_one_eq_mod a 1)
theorem g_mask {a s p : Nat} (hp : 2 ^ s = p) (hs : s < 64) (ha : a < 2 ^ 64) : lN a &&& lN (p - 1) = lN (a % p) := by
  subst hp
  have := Nat.pow_lt_pow_right (show 1 < 2 by decide) hs
  exact g_and ha (by omega) (Nat.and_two_pow_sub_one_eq_mod a s)
theorem g_or {k p a b : Nat} (hp : 2 ^ k = p) (ha : a < p) (h : b * p + a < 2 ^ 64) : lN (b * p) ||| lN a = lN (b * p + a) := by
  subst hp
  have h1 : b * 2 ^ k ||| a = b * 2 ^ k + a := by rw [← Nat.shiftLeft_eq, Nat.shiftLeft_add_eq_or_of_lt ha]
  have h3 : UInt64.ofNat (b * 2 ^ k) ||| UInt64.ofNat a = UInt64.ofNat (b * 2 ^ k + a) := UInt64.toNat_inj.mp (by rw [UInt64.toNat_or, u_tn (by omega), u_tn (by omega), u_tn h, h1])
  have h2 := congrArg UInt64.toInt64 h3
  exact h2
theorem g_or' {k p a b : Nat} (hp : 2 ^ k = p) (ha : a < p) (h : a + b * p < 2 ^ 64) : lN a ||| lN (b * p) = lN (a + b * p) := by
  rw [Int64.or_comm, g_or hp ha (by omega), Nat.add_comm]
theorem g_ushr {a k p : Nat} {y : UInt64} (hy : y = UInt64.ofNat k) (hk : k < 64) (hp : 2 ^ k = p) (ha : a < 2 ^ 64) : ((lN a).toUInt64 >>> y).toInt64 = lN (a / p) := by
  subst hy hp
  have h : UInt64.ofNat a >>> UInt64.ofNat k = UInt64.ofNat (a / 2 ^ k) := UInt64.toNat_inj.mp (by rw [UInt64.toNat_shiftRight, u_tn ha, u_tn (by omega), u_tn (Nat.lt_of_le_of_lt (Nat.div_le_self _ _) ha), Nat.mod_eq_of_lt hk, Nat.shiftRight_eq_div_pow])
  have h2 := congrArg UInt64.toInt64 h
  exact h2
theorem g_shl {a k p : Nat} {y : Int64} (hy : y.toBitVec.smod 64 = BitVec.ofNat 64 k) (hk : k < 64) (hp : 2 ^ k = p) (ha : a < 2 ^ 64) : lN a <<< y = lN (a * p) := by
  subst hp
  apply Int64.toBitVec_inj.mp
  rw [Int64.toBitVec_shiftLeft, hy]
  apply BitVec.eq_of_toNat_eq
  have hb : (lN a).toBitVec.toNat = a := Nat.mod_eq_of_lt ha
  have hk' : (BitVec.ofNat 64 k).toNat = k := Nat.mod_eq_of_lt (by omega)
  have h : ((lN a).toBitVec <<< BitVec.ofNat 64 k).toNat = (a * 2 ^ k) % 2 ^ 64 := by simp only [BitVec.shiftLeft_eq', BitVec.toNat_shiftLeft, hb, hk', Nat.shiftLeft_eq]
  exact h
/-! ===== lN to 2^62 under >> and >>> ===== -/
theorem pf_lI {a : Nat} (h : a < 2 ^ 63) : (lN a).toInt = (a : Int) := lg_ofNat_toInt h
theorem pf_shr {a d : Nat} {D : Int64} (hD : (D.toBitVec.smod 64).toNat = d) (h : a < 2 ^ 62) : lN a >>> D = lN (a / 2 ^ d) := by
  have hd : a / 2 ^ d ≤ a := Nat.div_le_self _ _
  apply Int64.toInt_inj.mp
  have e : (lN a >>> D).toInt = (lN a).toInt >>> d := by
    rw [← hD]
    exact BitVec.toInt_sshiftRight ..
  rw [e, Int.shiftRight_eq_div_pow, pf_lI (by omega), pf_lI (by omega)]
  rfl
theorem pf_ushr {a d : Nat} {D : UInt64} (hD : D.toNat % 64 = d) (h : a < 2 ^ 62) : ((lN a).toUInt64 >>> D).toInt64 = lN (a / 2 ^ d) := by
  have hd : a / 2 ^ d ≤ a := Nat.div_le_self _ _
  have e : (lN a).toUInt64 >>> D = UInt64.ofNat (a / 2 ^ d) := UInt64.toNat_inj.mp (by
    rw [UInt64.toNat_shiftRight, hD, Nat.shiftRight_eq_div_pow, UInt64.toNat_ofNat']
    show (UInt64.ofNat a).toNat / 2 ^ d = _
    rw [UInt64.toNat_ofNat', Nat.mod_eq_of_lt (by omega), Nat.mod_eq_of_lt (by omega)])
  rw [e]
  rfl
theorem pf_andw (x : Int64) : ∃ m, m < 2 ^ 32 ∧ x &&& 4294967295 = lN m := ⟨x.toBitVec.toNat % 2 ^ 32, Nat.mod_lt _ (by decide), Int64.toBitVec_inj.mp (BitVec.eq_of_toNat_eq (by
  show (x.toBitVec &&& 4294967295#64).toNat = (BitVec.ofNat 64 (x.toBitVec.toNat % 2 ^ 32)).toNat
  rw [BitVec.toNat_and, show (4294967295#64).toNat = 2 ^ 32 - 1 from by decide, Nat.and_two_pow_sub_one_eq_mod, BitVec.toNat_ofNat]
  omega))⟩
/-! ===== Int64 as an unsigned number: uN x ===== -/
def uN (x : Int64) : Nat := x.toUInt64.toNat
theorem uN_lt (x : Int64) : uN x < 18446744073709551616 := x.toUInt64.toNat_lt
theorem uN_inj {x y : Int64} (h : uN x = uN y) : x = y := congrArg UInt64.toInt64 (UInt64.toNat_inj.mp h)
theorem uN_add (x y : Int64) : uN (x + y) = (uN x + uN y) % 18446744073709551616 := by
  show (x.toUInt64 + y.toUInt64).toNat = _
  exact UInt64.toNat_add _ _
theorem uN_mul (x y : Int64) : uN (x * y) = (uN x * uN y) % 18446744073709551616 := by
  show (x.toUInt64 * y.toUInt64).toNat = _
  exact UInt64.toNat_mul _ _
theorem uN_shl (x : Int64) : uN (x <<< ((1 : Int32).toInt64 &&& 63)) = (2 * uN x) % 18446744073709551616 := by
  have h : (((1 : Int32).toInt64 &&& 63).toBitVec.smod 64).toNat = 1 := by decide
  show (x.toBitVec <<< (((1 : Int32).toInt64 &&& 63).toBitVec.smod 64).toNat).toNat = _
  rw [h, BitVec.toNat_shiftLeft, Nat.shiftLeft_eq, Nat.mul_comm]
  rfl
theorem uN_shr (x : Int64) (s : UInt64) : uN (x.toUInt64 >>> s).toInt64 = uN x / 2 ^ (s.toNat % 64) := by
  show (x.toUInt64 >>> s).toNat = _
  rw [UInt64.toNat_shiftRight, Nat.shiftRight_eq_div_pow]
  rfl
theorem uN_s32 (x : Int64) : uN (x.toUInt64 >>> ((32 : Int32).toInt64.toUInt64 &&& Int64.toUInt64 63)).toInt64 = uN x / 4294967296 := by
  have h : ((32 : Int32).toInt64.toUInt64 &&& Int64.toUInt64 63).toNat % 64 = 32 := by decide
  rw [uN_shr, h]
theorem uN_s63 (x : Int64) : uN (x.toUInt64 >>> ((63 : Int32).toInt64.toUInt64 &&& Int64.toUInt64 63)).toInt64 = uN x / 9223372036854775808 := by
  have h : ((63 : Int32).toInt64.toUInt64 &&& Int64.toUInt64 63).toNat % 64 = 63 := by decide
  rw [uN_shr, h]
theorem uN_lo (x : Int64) : uN (x &&& 4294967295) = uN x % 4294967296 := by
  show (x.toUInt64 &&& Int64.toUInt64 4294967295).toNat = _
  rw [UInt64.toNat_and]
  exact Nat.and_two_pow_sub_one_eq_mod _ 32
theorem uN_bit (x : Int64) : (x &&& 1) = 0 ↔ uN x % 2 = 0 := by
  have h : uN (x &&& 1) = uN x % 2 := by
    show (x.toUInt64 &&& Int64.toUInt64 1).toNat = _
    rw [UInt64.toNat_and]
    exact Nat.and_two_pow_sub_one_eq_mod _ 1
  rw [← h]
  exact ⟨fun z => by rw [z]; rfl, fun z => uN_inj (z.trans rfl)⟩
theorem uN_or {x y : Int64} (hy : uN y < 2) : uN ((x <<< ((1 : Int32).toInt64 &&& 63)) ||| y) = (2 * uN x) % 18446744073709551616 + uN y := by
  have h1 : uN ((x <<< ((1 : Int32).toInt64 &&& 63)) ||| y) = uN (x <<< ((1 : Int32).toInt64 &&& 63)) ||| uN y := UInt64.toNat_or _ _
  have h2 : (2 * uN x) % 18446744073709551616 = 2 ^ 1 * (uN x % 9223372036854775808) := by omega
  rw [h1, uN_shl, h2]
  exact (Nat.two_pow_add_eq_or_of_lt (i := 1) hy _).symm
theorem nat_xor {a : Nat} (h : a < 18446744073709551616) : a ^^^ 2 ^ 63 = (a + 9223372036854775808) % 18446744073709551616 := by
  have h1 : (a ^^^ 2 ^ 63) % 2 ^ 63 = a % 2 ^ 63 := by rw [Nat.xor_mod_two_pow, Nat.mod_self, Nat.xor_zero]
  have h2 : (a ^^^ 2 ^ 63) / 2 ^ 63 = (a / 2 ^ 63) ^^^ 1 := by rw [Nat.xor_div_two_pow, Nat.div_self (Nat.two_pow_pos 63)]
  have h3 : a / 2 ^ 63 = 0 ∨ a / 2 ^ 63 = 1 := by omega
  generalize a ^^^ 2 ^ 63 = t at h1 h2
  rcases h3 with h3 | h3
  · rw [h3] at h2
    have h2 : t / 2 ^ 63 = 1 := h2
    omega
  · rw [h3] at h2
    have h2 : t / 2 ^ 63 = 0 := h2
    omega
theorem uN_xor (x : Int64) : uN (x ^^^ (-9223372036854775808)) = (uN x + 9223372036854775808) % 18446744073709551616 := by
  rw [← nat_xor (uN_lt x)]
  exact UInt64.toNat_xor _ _
theorem uN_int (x : Int64) : x.toInt = if 2 * uN x < 18446744073709551616 then (uN x : Int) else (uN x : Int) - 18446744073709551616 := BitVec.toInt_eq_toNat_cond _
theorem uN_le (x y : Int64) : (x ^^^ (-9223372036854775808)) ≤ (y ^^^ (-9223372036854775808)) ↔ uN x ≤ uN y := by
  have hx := uN_lt x
  have hy := uN_lt y
  rw [Int64.le_iff_toInt_le, uN_int, uN_int, uN_xor, uN_xor]
  omega
theorem uN_sk (x : Int64) {k : Nat} (hk : k < 64) : uN (x.toUInt64 >>> ((nI k).toInt64.toUInt64 &&& Int64.toUInt64 63)).toInt64 = uN x / 2 ^ k := by
  have h : ((nI k).toInt64.toUInt64 &&& Int64.toUInt64 63).toNat % 64 = k := by
    rw [nI_l (by omega), UInt64.toNat_and]
    have e : (lN k).toUInt64.toNat = k % 2 ^ 64 := rfl
    have e2 : (Int64.toUInt64 63).toNat = 2 ^ 6 - 1 := by decide
    rw [e, e2, Nat.and_two_pow_sub_one_eq_mod]
    omega
  rw [uN_shr, h]
/-! ===== unsigned comparison by xor with the least ===== -/
theorem lN_bv (n : Nat) : (lN n).toBitVec = BitVec.ofNat 64 n := rfl
theorem lN_nat {n : Nat} (h : n < 2 ^ 64) : (lN n).toBitVec.toNat = n := by rw [lN_bv, BitVec.toNat_ofNat]; exact Nat.mod_eq_of_lt h
theorem lN_xor (a b : Nat) : lN a ^^^ lN b = lN (a ^^^ b) := by
  apply Int64.toBitVec_inj.mp; rw [Int64.toBitVec_xor, lN_bv, lN_bv, lN_bv]; apply BitVec.eq_of_getLsbD_eq; intro i hi; simp [BitVec.getLsbD_ofNat, Nat.testBit_xor, hi]
theorem lN_ti {m : Nat} (h : m < 2 ^ 64) : (lN m).toInt = if m < 2 ^ 63 then (m : Int) else (m : Int) - 2 ^ 64 := by
  have c := BitVec.toInt_eq_toNat_cond (lN m).toBitVec
  rw [lN_nat h] at c
  show (lN m).toBitVec.toInt = _
  rw [c]
  split <;> split <;> omega
theorem xor63 {x : Nat} (h : x < 2 ^ 63) : x ^^^ 2 ^ 63 = 2 ^ 63 + x := by
  apply Nat.eq_of_testBit_eq
  intro i
  rw [Nat.testBit_xor, Nat.testBit_two_pow]
  rcases Nat.lt_trichotomy i 63 with z | z | z
  · rw [Nat.testBit_two_pow_add_gt z, decide_eq_false (by omega)]; simp
  · subst z; rw [Nat.testBit_two_pow_add_eq]; simp
  · have hp : 2 ^ 64 ≤ 2 ^ i := Nat.pow_le_pow_right (by decide) z
    rw [Nat.testBit_lt_two_pow (show x < 2 ^ i by omega), Nat.testBit_lt_two_pow (show 2 ^ 63 + x < 2 ^ i by omega), decide_eq_false (by omega)]; rfl
theorem xorS {a : Nat} (h : a < 2 ^ 64) : (lN a ^^^ (-9223372036854775808)).toInt = (a : Int) - 2 ^ 63 := by
  rw [show (-9223372036854775808 : Int64) = lN (2 ^ 63) from by decide +kernel, lN_xor]
  rcases Nat.lt_or_ge a (2 ^ 63) with z | z
  · rw [xor63 z, lN_ti (by omega), if_neg (by omega)]; omega
  · obtain ⟨x, rfl⟩ : ∃ x, a = 2 ^ 63 + x := ⟨a - 2 ^ 63, by omega⟩
    rw [← xor63 (by omega), Nat.xor_assoc, Nat.xor_self, Nat.xor_zero, lN_ti (by omega), if_pos (by omega), xor63 (by omega)]; omega
theorem ultL {a b : Nat} (ha : a < 2 ^ 64) (hb : b < 2 ^ 64) : ((lN b ^^^ (-9223372036854775808)) ≤ (lN a ^^^ (-9223372036854775808))) ↔ b ≤ a := by
  rw [Int64.le_iff_toInt_le, xorS ha, xorS hb]; omega
/-! ===== Int64 masks of n low bits ===== -/
theorem cr_bits (W U M : BitVec 64) : ((W &&& U) &&& (U &&& (M ^^^ BitVec.allOnes 64))) = 0#64 ↔ (W &&& U) &&& M = W &&& U := by
  constructor
  · intro h
    apply BitVec.eq_of_getLsbD_eq
    intro i hi
    have e := congrArg (fun x => BitVec.getLsbD x i) h
    simp only [BitVec.getLsbD_and, BitVec.getLsbD_xor, BitVec.getLsbD_allOnes, BitVec.getLsbD_zero, hi, decide_true] at e ⊢
    revert e
    cases W.getLsbD i <;> cases U.getLsbD i <;> cases M.getLsbD i <;> decide
  · intro h
    apply BitVec.eq_of_getLsbD_eq
    intro i hi
    have e := congrArg (fun x => BitVec.getLsbD x i) h
    simp only [BitVec.getLsbD_and, BitVec.getLsbD_xor, BitVec.getLsbD_allOnes, BitVec.getLsbD_zero, hi, decide_true] at e ⊢
    revert e
    cases W.getLsbD i <;> cases U.getLsbD i <;> cases M.getLsbD i <;> decide
theorem cr_mask (w U m : Int64) (n : Nat) (hm : m.toBitVec.toNat = 2 ^ n - 1) : ((w &&& U) &&& (U &&& (m ^^^ (-1)))) = 0 ↔ (w &&& U).toBitVec.toNat < 2 ^ n := by
  have e0 : (-1 : Int64).toBitVec = BitVec.allOnes 64 := by decide
  have z0 : (0 : Int64).toBitVec = 0#64 := by decide
  rw [← Int64.toBitVec_inj, z0, Int64.toBitVec_and, Int64.toBitVec_and, Int64.toBitVec_and, Int64.toBitVec_xor, e0, cr_bits]
  generalize w.toBitVec &&& U.toBitVec = T
  rw [← BitVec.toNat_inj, BitVec.toNat_and, hm, Nat.and_two_pow_sub_one_eq_mod]
  constructor
  · intro h
    have t := Nat.mod_lt T.toNat (Nat.two_pow_pos n)
    rw [h] at t
    exact t
  · exact Nat.mod_eq_of_lt
theorem cr_shr (t : Int64) (x : UInt64) (n : Nat) (hx : x.toNat % 64 = n) : (t.toUInt64 >>> x).toInt64 = 0 ↔ t.toBitVec.toNat < 2 ^ n := by
  rw [← Int64.toBitVec_inj, ← BitVec.toNat_inj]
  show (t.toUInt64 >>> x).toNat = 0 ↔ t.toUInt64.toNat < 2 ^ n
  rw [UInt64.toNat_shiftRight, hx, Nat.shiftRight_eq_div_pow]
  constructor
  · intro h
    have d : t.toUInt64.toNat / 2 ^ n < 1 := by
      rw [h]
      decide
    have e := (Nat.div_lt_iff_lt_mul (Nat.two_pow_pos n)).mp d
    rw [Nat.one_mul] at e
    exact e
  · exact Nat.div_eq_of_lt
theorem cr_amt (s : Int64) : ∃ n, n < 64 ∧ s &&& 63 = lN n ∧ (s.toUInt64 &&& Int64.toUInt64 63).toNat % 64 = n := by
  have e : (s.toUInt64 &&& Int64.toUInt64 63).toNat = s.toUInt64.toNat % 2 ^ 6 := by
    rw [UInt64.toNat_and, show (Int64.toUInt64 63).toNat = 2 ^ 6 - 1 from by decide, Nat.and_two_pow_sub_one_eq_mod]
  refine ⟨s.toUInt64.toNat % 2 ^ 6, by omega, ?_, by omega⟩
  rw [← Int64.toBitVec_inj, ← BitVec.toNat_inj]
  show (s.toUInt64 &&& Int64.toUInt64 63).toNat = (BitVec.ofNat 64 (s.toUInt64.toNat % 2 ^ 6)).toNat
  rw [e, BitVec.toNat_ofNat]
  omega
end
section
/-! what a contract gives, weaker; bitCount -/
theorem Ct.to {ad : Nat → Nat} {μ : MI} {d : Nat} {args : List Value} {m : Wm} {Q Q' : Option Value → Wm → Prop} (h : Ct ad μ d args m Q) (k : ∀ v m', Q v m' → Q' v m') : Ct ad μ d args m Q' := Ct.mono h k
def bcnt (x : Int32) : Int32 :=
  let a := x - (((x.toUInt32 >>> ((1 : Int32).toUInt32 &&& Int32.toUInt32 31)).toInt32) &&& 1431655765)
  let b := (a &&& 858993459) + (((a.toUInt32 >>> ((2 : Int32).toUInt32 &&& Int32.toUInt32 31)).toInt32) &&& 858993459)
  let c := (b + ((b.toUInt32 >>> ((4 : Int32).toUInt32 &&& Int32.toUInt32 31)).toInt32)) &&& 252645135
  let e := c + ((c.toUInt32 >>> ((8 : Int32).toUInt32 &&& Int32.toUInt32 31)).toInt32)
  let f := e + ((e.toUInt32 >>> ((16 : Int32).toUInt32 &&& Int32.toUInt32 31)).toInt32)
  f &&& 63
set_option maxHeartbeats 1000000 in
theorem v_bitCount {ad : Nat → Nat} {d : Nat} {m : Wm} {x : Int32} : Ct ad μJ6_bitCount d [.int x] m (fun r m' => m' = m ∧ r = some (.int (bcnt x))) := by
  refine Ct.of (by decide +kernel) rfl (Nat.le_of_ble_eq_true rfl) ?_
  refine aw_eq (L' := [(0, .int x)]) ?_ rfl rfl rfl
  refine aw_iload_n (j := 0) dJ6_bitCount_0f7a4_0 rfl rfl ?_
  refine aw_iload_n (j := 0) dJ6_bitCount_0f7a4_1 rfl rfl ?_
  refine aw_iconst (v := 1) dJ6_bitCount_0f7a4_2 (by decide) ?_
  refine aw_iushr dJ6_bitCount_0f7a4_3 ?_
  refine aw_ldcw dJ6_bitCount_0f7a4_4 c_J6_265 ?_
  refine aw_iand dJ6_bitCount_0f7a4_7 ?_
  refine aw_isub dJ6_bitCount_0f7a4_8 ?_
  refine aw_istore_n (i := 0) (L' := [(0, .int _)]) dJ6_bitCount_0f7a4_9 rfl (by decide) rfl ?_
  refine aw_iload_n (j := 0) dJ6_bitCount_0f7a4_10 rfl rfl ?_
  refine aw_ldcw dJ6_bitCount_0f7a4_11 c_J6_266 ?_
  refine aw_iand dJ6_bitCount_0f7a4_14 ?_
  refine aw_iload_n (j := 0) dJ6_bitCount_0f7a4_15 rfl rfl ?_
  refine aw_iconst (v := 2) dJ6_bitCount_0f7a4_16 (by decide) ?_
  refine aw_iushr dJ6_bitCount_0f7a4_17 ?_
  refine aw_ldcw dJ6_bitCount_0f7a4_18 c_J6_266 ?_
  refine aw_iand dJ6_bitCount_0f7a4_21 ?_
  refine aw_iadd dJ6_bitCount_0f7a4_22 ?_
  refine aw_istore_n (i := 0) (L' := [(0, .int _)]) dJ6_bitCount_0f7a4_23 rfl (by decide) rfl ?_
  refine aw_iload_n (j := 0) dJ6_bitCount_0f7a4_24 rfl rfl ?_
  refine aw_iload_n (j := 0) dJ6_bitCount_0f7a4_25 rfl rfl ?_
  refine aw_iconst (v := 4) dJ6_bitCount_0f7a4_26 (by decide) ?_
  refine aw_iushr dJ6_bitCount_0f7a4_27 ?_
  refine aw_iadd dJ6_bitCount_0f7a4_28 ?_
  refine aw_ldcw dJ6_bitCount_0f7a4_29 c_J6_267 ?_
  refine aw_iand dJ6_bitCount_0f7a4_32 ?_
  refine aw_istore_n (i := 0) (L' := [(0, .int _)]) dJ6_bitCount_0f7a4_33 rfl (by decide) rfl ?_
  refine aw_iload_n (j := 0) dJ6_bitCount_0f7a4_34 rfl rfl ?_
  refine aw_iload_n (j := 0) dJ6_bitCount_0f7a4_35 rfl rfl ?_
  refine aw_bipush (v := 8) dJ6_bitCount_0f7a4_36 (by decide) ?_
  refine aw_iushr dJ6_bitCount_0f7a4_38 ?_
  refine aw_iadd dJ6_bitCount_0f7a4_39 ?_
  refine aw_istore_n (i := 0) (L' := [(0, .int _)]) dJ6_bitCount_0f7a4_40 rfl (by decide) rfl ?_
  refine aw_iload_n (j := 0) dJ6_bitCount_0f7a4_41 rfl rfl ?_
  refine aw_iload_n (j := 0) dJ6_bitCount_0f7a4_42 rfl rfl ?_
  refine aw_bipush (v := 16) dJ6_bitCount_0f7a4_43 (by decide) ?_
  refine aw_iushr dJ6_bitCount_0f7a4_45 ?_
  refine aw_iadd dJ6_bitCount_0f7a4_46 ?_
  refine aw_istore_n (i := 0) (L' := [(0, .int _)]) dJ6_bitCount_0f7a4_47 rfl (by decide) rfl ?_
  refine aw_iload_n (j := 0) dJ6_bitCount_0f7a4_48 rfl rfl ?_
  refine aw_bipush (v := 63) dJ6_bitCount_0f7a4_49 (by decide) ?_
  refine aw_iand dJ6_bitCount_0f7a4_51 ?_
  exact aw_ret (v := some (.int _)) rfl (Or.inr (Or.inl ⟨_, .int, rfl, rfl, rfl, dJ6_bitCount_0f7a4_52⟩)) ⟨rfl, rfl⟩
end
section
/-! ROWS THAT SERVE MANY METHODS: counting up, layouts of the model's league in an int[], questions of both sides -/
theorem down {N : Nat} {P : Nat → Prop} (h0 : P N) (hs : ∀ k, k < N → P (k + 1) → P k) : ∀ {k : Nat}, k ≤ N → P k := by
  have h : ∀ n k, k + n = N → P k := by
    intro n
    induction n with
    | zero => intro k hk; have : k = N := hk; exact this ▸ h0
    | succ n ih => intro k hk; exact hs k (by omega) (ih (k + 1) (by omega))
  intro k hk
  exact h (N - k) k (by omega)
/-! a literal c is nI n -/
theorem le_l (n : Nat) (c : Int32) (e : c = nI n) {k : Nat} (hn : n < 2147483648) (hk : k < 2147483648) : c ≤ nI k ↔ n ≤ k := by rw [e]; exact nI_leI hn hk
theorem lt_l (n : Nat) (c : Int32) (e : c = nI n) {k : Nat} (hn : n < 2147483648) (hk : k < 2147483648) : c < nI k ↔ n < k := by rw [e]; exact nI_ltI hn hk
theorem l_le (n : Nat) (c : Int32) (e : c = nI n) {k : Nat} (hn : n < 2147483648) (hk : k < 2147483648) : nI k ≤ c ↔ k ≤ n := by rw [e]; exact nI_leI hk hn
theorem l_lt (n : Nat) (c : Int32) (e : c = nI n) {k : Nat} (hn : n < 2147483648) (hk : k < 2147483648) : nI k < c ↔ k < n := by rw [e]; exact nI_ltI hk hn
theorem add_l (n : Nat) (c : Int32) (e : c = nI n) (a : Nat) : nI a + c = nI (a + n) := by rw [e]; exact nI_add a n
theorem l_add (n : Nat) (c : Int32) (e : c = nI n) (a : Nat) : c + nI a = nI (n + a) := by rw [e]; exact nI_add n a
theorem nI_mul (a b : Nat) : nI a * nI b = nI (a * b) := (Int32.ofNat_mul a b).symm
theorem l_mul (n : Nat) (c : Int32) (e : c = nI n) (a : Nat) : c * nI a = nI (n * a) := by rw [e]; exact nI_mul n a
theorem mul_l (n : Nat) (c : Int32) (e : c = nI n) (a : Nat) : nI a * c = nI (a * n) := by rw [e]; exact nI_mul a n
theorem nat_in {k n : Nat} (h : k < n) (hn : n < 2147483648) : vp_in (nI k) n := vp_in_nI h hn
theorem bz_ite {c : Prop} [Decidable c] : bz (if c then 1 else 0) := by by_cases h : c <;> simp [h, bz]
section GEN
variable {ad : Nat → Nat} {d : Nat} {m : Wm}
/-! the model's questions -/
theorem in_ok {y0 y2 y4 : Int64} : Ct ad μX12_in d [.long y0, .long y2, .long y4] m (fun r m' => m' = m ∧ r = some (.int (if y2 ≤ y0 ∧ y0 ≤ y4 then 1 else 0))) := by
  refine v_X12_in ⟨fun h => ?_, fun h => ⟨fun h2 => ?_, fun h2 => ?_⟩⟩
  · rw [lg_cmp_lt, fa_lt64] at h
    rw [if_neg (fun q => by have := (fa_le64 _ _).mp q.1; omega)]
    exact ⟨rfl, rfl⟩
  · rw [lg_cmp_gt, fa_lt64] at h2
    rw [if_neg (fun q => by have := (fa_le64 _ _).mp q.2; omega)]
    exact ⟨rfl, rfl⟩
  · rw [lg_cmp_lt, fa_lt64] at h
    rw [lg_cmp_gt, fa_lt64] at h2
    rw [if_pos ⟨(fa_le64 _ _).mpr (by omega), (fa_le64 _ _).mpr (by omega)⟩]
    exact ⟨rfl, rfl⟩
theorem in_i {x lo hi : Int32} {y2 y4 : Int64} (h2 : y2 = lo.toInt64) (h4 : y4 = hi.toInt64) : Ct ad μX12_in d [.long x.toInt64, .long y2, .long y4] m (fun r m' => m' = m ∧ r = some (.int (if lo ≤ x ∧ x ≤ hi then 1 else 0))) := by
  subst h2 h4
  refine in_ok.to ?_
  rintro _ _ ⟨rfl, rfl⟩
  simp only [fa_wide_le]
  exact ⟨trivial, trivial⟩
theorem isSide_ok {x : Int32} : Ct ad μX12_isSide (d + 1) [.ref (ad 187), .int x] m (fun r m' => m' = m ∧ r = some (.int (if 0 ≤ x ∧ x ≤ m.1 187 1 - 1 then 1 else 0))) :=
  v_X12_isSide ((in_i (lo := 0) rfl rfl).to (by rintro _ _ ⟨rfl, rfl⟩; exact ⟨_, rfl, bz_ite, rfl, rfl⟩))
theorem isArt_ok {x : Int32} : Ct ad μX12_isArt (d + 1) [.ref (ad 187), .int x] m (fun r m' => m' = m ∧ r = some (.int (if 0 ≤ x ∧ x ≤ m.1 187 0 - 1 then 1 else 0))) :=
  v_X12_isArt ((in_i (lo := 0) rfl rfl).to (by rintro _ _ ⟨rfl, rfl⟩; exact ⟨_, rfl, bz_ite, rfl, rfl⟩))
theorem tellM {y : Int64} {n : Nat} (h : m.1 187 16 = nI n) (hn : n < 16) : Ct ad μX12_tell d [.ref (ad 187), .long y] m (fun r m' => r = none ∧ m' = uI (uL m 196 n y) 187 16 (nI (n + 1))) := by
  refine v_X12_tell ⟨by rw [h]; exact nat_in hn (by decide), rfl, ?_⟩
  show uI (uL m 196 (m.1 187 16).toNatClampNeg y) 187 16 (m.1 187 16 + 1) = _
  rw [h, nI_clamp (by omega), nI_1]
/-! the model's league in a row of ints -/
def layV (m : Wm) (k : Nat) : Int32 := if k < 32 then m.1 188 k else if k < 56 then (if (k - 32) % 3 = 0 then m.1 190 ((k - 32) / 3) else if (k - 32) % 3 = 1 then m.1 191 ((k - 32) / 3) else m.1 192 ((k - 32) / 3)) else m.1 187 8
def layM (m : Wm) (a x n : Nat) : Wm := (fun b j => if b = a ∧ x ≤ j ∧ j < x + n then layV m (j - x) else m.1 b j, m.2)
theorem layM_0 {a x : Nat} : layM m a x 0 = m := by
  unfold layM
  have : (fun b j => if b = a ∧ x ≤ j ∧ j < x + 0 then layV m (j - x) else m.1 b j) = m.1 := by
    funext b j
    rw [if_neg (by omega)]
  rw [this]
theorem layM_step {a x n i : Nat} {v : Int32} (hi : i = x + n) (hv : v = layV m n) : uI (layM m a x n) a i v = layM m a x (n + 1) := by
  subst hi hv
  have : (fun b j => if b = a ∧ j = x + n then layV m n else (layM m a x n).1 b j) = (layM m a x (n + 1)).1 := by
    funext b j
    show _ = if b = a ∧ x ≤ j ∧ j < x + (n + 1) then layV m (j - x) else m.1 b j
    by_cases hb : b = a
    · by_cases hj : j = x + n
      · rw [if_pos ⟨hb, hj⟩, if_pos ⟨hb, by omega, by omega⟩, hj, Nat.add_sub_cancel_left]
      · rw [if_neg (fun q => hj q.2)]
        show (if b = a ∧ x ≤ j ∧ j < x + n then layV m (j - x) else m.1 b j) = _
        by_cases hc : x ≤ j ∧ j < x + n
        · rw [if_pos ⟨hb, hc⟩, if_pos ⟨hb, hc.1, by omega⟩]
        · rw [if_neg (fun q => hc q.2), if_neg (fun q => hc ⟨q.2.1, by omega⟩)]
    · rw [if_neg (fun q => hb q.1), if_neg (fun q => hb q.1)]
      show (if b = a ∧ x ≤ j ∧ j < x + n then layV m (j - x) else m.1 b j) = _
      rw [if_neg (fun q => hb q.1)]
  show ((fun b j => if b = a ∧ j = x + n then layV m n else (layM m a x n).1 b j), m.2) = layM m a x (n + 1)
  rw [this]
  rfl
theorem layM_at {a x n b j : Nat} (hb : b ≠ a) : (layM m a x n).1 b j = m.1 b j := if_neg (fun q => hb q.1)
theorem layV_a {k : Nat} (h : k < 32) : layV m k = m.1 188 k := if_pos h
theorem layV_b {k r : Nat} (h : k < 8) (hr : r < 3) : layV m (32 + 3 * k + r) = if r = 0 then m.1 190 k else if r = 1 then m.1 191 k else m.1 192 k := by
  unfold layV
  rw [if_neg (by omega), if_pos (by omega), show (32 + 3 * k + r - 32) % 3 = r by omega, show (32 + 3 * k + r - 32) / 3 = k by omega]
theorem layC {a na x : Nat} (ha : LAY[a]? = some (.inr (0, na))) (hn : ∀ b ∈ [187, 188, 190, 191, 192], b ≠ a) (hx : x + 57 ≤ na) (hb : na < 100000) : Ct ad μX12_lay d [.ref (ad 187), .ref (ad a), .int (nI x)] m (fun r m' => r = none ∧ m' = layM m a x 57) := by
  refine v_X12_lay ha ?_
  have h1 : ∀ Q : Option Value → Wm → Prop, AW ad E0 μX12_lay d Q 37 [(0, .ref (ad 187)), (1, .ref (ad a)), (3, .int (nI (x + 32))), (4, .int (nI 0))] [] (layM m a x 32) → AW ad E0 μX12_lay d Q 5 [(0, .ref (ad 187)), (1, .ref (ad a)), (3, .int (nI x)), (4, .int (nI 0))] [] m := by
    intro Q h
    have := down (N := 32) (P := fun k => AW ad E0 μX12_lay d Q 5 [(0, .ref (ad 187)), (1, .ref (ad a)), (3, .int (nI x)), (4, .int (nI k))] [] (layM m a x k)) ?_ ?_ (Nat.zero_le _)
    · rw [layM_0] at this
      exact this
    · exact g_X12_lay_5 ha ⟨fun _ => by rw [add_l 32 32 rfl]; exact h, fun h => absurd (by decide) h⟩
    · intro k hk ih
      refine g_X12_lay_5 ha ⟨fun h => absurd ((le_l 32 32 rfl (by omega) (by omega)).mp h) (by omega), fun _ => ⟨nat_in hk (by decide), by rw [nI_add]; exact nat_in (by omega) (by omega), ?_⟩⟩
      rw [nI_add, nI_1, layM_step (by rw [nI_clamp (by omega)]) (by rw [layM_at (hn 188 (by simp)), nI_clamp (by omega), layV_a hk])]
      exact ih
  refine h1 _ ?_
  have := down (N := 8) (P := fun k => AW ad E0 μX12_lay d (fun r m' => r = none ∧ m' = layM m a x 57) 37 [(0, .ref (ad 187)), (1, .ref (ad a)), (3, .int (nI (x + 32))), (4, .int (nI k))] [] (layM m a x (32 + 3 * k))) ?_ ?_ (Nat.zero_le _)
  · exact this
  · refine g_X12_lay_37 ha ⟨fun _ => ⟨by rw [add_l 24 24 rfl]; exact nat_in (by omega) (by omega), rfl, ?_⟩, fun h => absurd (by decide) h⟩
    rw [add_l 24 24 rfl, layM_step (by rw [nI_clamp (by omega)]) (by rw [layM_at (hn 187 (by simp))]; rfl)]
  · intro k hk ih
    have e3 : (3 : Int32) * nI k = nI (3 * k) := l_mul 3 3 rfl k
    refine g_X12_lay_37 ha ⟨fun h => absurd ((le_l 8 8 rfl (by omega) (by omega)).mp h) (by omega), fun _ => ?_⟩
    rw [e3, nI_add, nI_1 (x + 32 + 3 * k), add_l 2 2 rfl, nI_1]
    refine ⟨nat_in hk (by decide), nat_in (by omega) (by omega), nat_in hk (by decide), nat_in (by omega) (by omega), nat_in hk (by decide), nat_in (by omega) (by omega), ?_⟩
    rw [layM_step (n := 32 + 3 * k) (by rw [nI_clamp (by omega)]; omega) (by rw [layM_at (hn 190 (by simp)), nI_clamp (by omega)]; exact (layV_b (r := 0) hk (by decide)).symm)]
    rw [layM_step (n := 32 + 3 * k + 1) (by rw [nI_clamp (by omega)]; omega) (by rw [layM_at (hn 191 (by simp)), nI_clamp (by omega)]; exact (layV_b (r := 1) hk (by decide)).symm)]
    rw [layM_step (n := 32 + 3 * k + 1 + 1) (by rw [nI_clamp (by omega)]; omega) (by rw [layM_at (hn 192 (by simp)), nI_clamp (by omega)]; exact (layV_b (r := 2) hk (by decide)).symm)]
    exact ih
def tgt (n : Nat) : Nat × Nat := if n < 32 then (188, n) else if n < 56 then (190 + (n - 32) % 3, (n - 32) / 3) else (187, 8)
theorem tgt_inj : ∀ i : Fin 57, ∀ j : Fin 57, tgt i.val = tgt j.val → i = j := by decide +kernel
theorem tgt_in : ∀ i : Fin 57, (tgt i.val).1 ∈ [187, 188, 190, 191, 192] := by decide +kernel
def brM (m : Wm) (a x : Nat) : Nat → Wm
  | 0 => m
  | n + 1 => uI (brM m a x n) (tgt n).1 (tgt n).2 (m.1 a (x + n))
theorem brM_at {a x k : Nat} : ∀ {n : Nat}, k < n → n ≤ 57 → (brM m a x n).1 (tgt k).1 (tgt k).2 = m.1 a (x + k) := by
  intro n
  induction n with
  | zero => intro h; omega
  | succ n ih =>
    intro h hn
    show (if (tgt k).1 = (tgt n).1 ∧ (tgt k).2 = (tgt n).2 then m.1 a (x + n) else (brM m a x n).1 (tgt k).1 (tgt k).2) = _
    by_cases hk : k = n
    · subst hk; rw [if_pos ⟨rfl, rfl⟩]
    · rw [if_neg (fun q => hk (by have := tgt_inj ⟨k, by omega⟩ ⟨n, by omega⟩ (Prod.ext q.1 q.2); exact Fin.mk.inj_iff.mp this))]
      exact ih (by omega) (by omega)
theorem brM_out {a x b j : Nat} (hb : ∀ k : Fin 57, tgt k.val ≠ (b, j)) : ∀ {n : Nat}, n ≤ 57 → (brM m a x n).1 b j = m.1 b j := by
  intro n
  induction n with
  | zero => intro _; rfl
  | succ n ih =>
    intro hn
    show (if b = (tgt n).1 ∧ j = (tgt n).2 then m.1 a (x + n) else (brM m a x n).1 b j) = _
    rw [if_neg (fun q => hb ⟨n, by omega⟩ (Prod.ext q.1.symm q.2.symm))]
    exact ih (by omega)
theorem brM_cell {a x b j : Nat} (hb : ∀ c ∈ [187, 188, 190, 191, 192], c ≠ b) {n : Nat} (hn : n ≤ 57) : (brM m a x n).1 b j = m.1 b j :=
  brM_out (fun k h => hb _ (tgt_in k) (congrArg Prod.fst h)) hn
theorem brM_2 {a x : Nat} : ∀ n, (brM m a x n).2 = m.2 := by
  intro n
  induction n with
  | zero => rfl
  | succ n ih => exact ih
theorem tgt_a {k : Nat} (h : k < 32) : tgt k = (188, k) := if_pos h
theorem tgt_b {k r : Nat} (h : k < 8) (hr : r < 3) : tgt (32 + 3 * k + r) = (190 + r, k) := by
  unfold tgt
  rw [if_neg (by omega), if_pos (by omega), show (32 + 3 * k + r - 32) % 3 = r by omega, show (32 + 3 * k + r - 32) / 3 = k by omega]
theorem brM_step {a x n b j : Nat} {v : Int32} (ht : tgt n = (b, j)) (hv : v = m.1 a (x + n)) : uI (brM m a x n) b j v = brM m a x (n + 1) := by
  subst hv
  show _ = uI (brM m a x n) (tgt n).1 (tgt n).2 (m.1 a (x + n))
  rw [ht]
theorem bringC {a na x : Nat} (ha : LAY[a]? = some (.inr (0, na))) (hn : ∀ b ∈ [187, 188, 190, 191, 192], b ≠ a) (hx : x + 57 ≤ na) (hb : na < 100000) : Ct ad μX12_bring d [.ref (ad 187), .ref (ad a), .int (nI x)] m (fun r m' => r = none ∧ m' = brM m a x 57) := by
  refine v_X12_bring ha ?_
  have h1 : ∀ Q : Option Value → Wm → Prop, AW ad E0 μX12_bring d Q 37 [(0, .ref (ad 187)), (1, .ref (ad a)), (3, .int (nI (x + 32))), (4, .int (nI 0))] [] (brM m a x 32) → AW ad E0 μX12_bring d Q 5 [(0, .ref (ad 187)), (1, .ref (ad a)), (3, .int (nI x)), (4, .int (nI 0))] [] m := by
    intro Q h
    have := down (N := 32) (P := fun k => AW ad E0 μX12_bring d Q 5 [(0, .ref (ad 187)), (1, .ref (ad a)), (3, .int (nI x)), (4, .int (nI k))] [] (brM m a x k)) ?_ ?_ (Nat.zero_le _)
    · exact this
    · exact g_X12_bring_5 ha ⟨fun _ => by rw [add_l 32 32 rfl]; exact h, fun h => absurd (by decide) h⟩
    · intro k hk ih
      refine g_X12_bring_5 ha ⟨fun h => absurd ((le_l 32 32 rfl (by omega) (by omega)).mp h) (by omega), fun _ => ⟨by rw [nI_add]; exact nat_in (by omega) (by omega), nat_in hk (by decide), ?_⟩⟩
      rw [nI_add, nI_1, brM_step (by rw [nI_clamp (by omega)]; exact tgt_a hk) (by rw [brM_cell hn (by omega), nI_clamp (by omega)])]
      exact ih
  refine h1 _ ?_
  have := down (N := 8) (P := fun k => AW ad E0 μX12_bring d (fun r m' => r = none ∧ m' = brM m a x 57) 37 [(0, .ref (ad 187)), (1, .ref (ad a)), (3, .int (nI (x + 32))), (4, .int (nI k))] [] (brM m a x (32 + 3 * k))) ?_ ?_ (Nat.zero_le _)
  · exact this
  · refine g_X12_bring_37 ha ⟨fun _ => ⟨by rw [add_l 24 24 rfl]; exact nat_in (by omega) (by omega), rfl, ?_⟩, fun h => absurd (by decide) h⟩
    rw [add_l 24 24 rfl, brM_step (n := 56) rfl (by rw [brM_cell hn (by omega), nI_clamp (by omega)])]
  · intro k hk ih
    have e3 : (3 : Int32) * nI k = nI (3 * k) := l_mul 3 3 rfl k
    have w : ∀ (b j n : Nat), n ≤ 57 → (brM m a x n).1 a j = m.1 a j := fun b j n h => brM_cell hn h
    refine g_X12_bring_37 ha ⟨fun h => absurd ((le_l 8 8 rfl (by omega) (by omega)).mp h) (by omega), fun _ => ?_⟩
    rw [e3, nI_add, nI_1 (x + 32 + 3 * k), add_l 2 2 rfl, nI_1]
    refine ⟨nat_in (by omega) (by omega), nat_in hk (by decide), nat_in (by omega) (by omega), nat_in hk (by decide), nat_in (by omega) (by omega), nat_in hk (by decide), ?_⟩
    rw [brM_step (n := 32 + 3 * k) (by rw [nI_clamp (by omega)]; exact tgt_b (r := 0) hk (by decide)) (by rw [brM_cell hn (by omega), nI_clamp (by omega)]; exact congrArg (m.1 a) (by omega))]
    rw [brM_step (n := 32 + 3 * k + 1) (by rw [nI_clamp (by omega)]; exact tgt_b (r := 1) hk (by decide)) (by rw [brM_cell hn (by omega), nI_clamp (by omega)]; exact congrArg (m.1 a) (by omega))]
    rw [brM_step (n := 32 + 3 * k + 1 + 1) (by rw [nI_clamp (by omega)]; exact tgt_b (r := 2) hk (by decide)) (by rw [brM_cell hn (by omega), nI_clamp (by omega)]; exact congrArg (m.1 a) (by omega))]
    exact ih
theorem sumOfAll0 (h : m.1 187 1 = 0) : Ct ad μX12_sumOfAll (d + 1) [.ref (ad 187)] m (fun r m' => m' = m ∧ r = some (.int 0)) :=
  v_X12_sumOfAll (g_X12_sumOfAll_4 ⟨fun _ => ⟨rfl, rfl⟩, fun h1 => absurd (by rw [h]; decide) h1⟩)
end GEN
end
section
/-! numbers -/
theorem fb_rng (x : Int32) : -2147483648 ≤ x.toInt ∧ x.toInt < 2147483648 := by
  have h1 := Int32.le_toInt x
  have h2 := Int32.toInt_lt x
  omega
theorem fb_bmod {z : Int} (h1 : -2147483648 ≤ z) (h2 : z < 2147483648) : z.bmod (2 ^ 32) = z := by
  rw [Int.bmod_eq_of_le (by omega) (by omega)]
theorem fb_addI {x y : Int32} (h1 : -2147483648 ≤ x.toInt + y.toInt) (h2 : x.toInt + y.toInt < 2147483648) : (x + y).toInt = x.toInt + y.toInt := by
  rw [Int32.toInt_add, fb_bmod h1 h2]
theorem fb_subI {x y : Int32} (h1 : -2147483648 ≤ x.toInt - y.toInt) (h2 : x.toInt - y.toInt < 2147483648) : (x - y).toInt = x.toInt - y.toInt := by
  rw [Int32.toInt_sub, fb_bmod h1 h2]
theorem fb_mulI {x y : Int32} (h1 : -2147483648 ≤ x.toInt * y.toInt) (h2 : x.toInt * y.toInt < 2147483648) : (x * y).toInt = x.toInt * y.toInt := by
  rw [Int32.toInt_mul, fb_bmod h1 h2]
theorem z_le {a b : Int32} (h : a ≤ b) : a.toInt ≤ b.toInt := (fa_le _ _).mp h
theorem z_nle {a b : Int32} (h : ¬ a ≤ b) : b.toInt < a.toInt := (fa_lt _ _).mp (fa_of_nle h)
theorem z_lt {a b : Int32} (h : a < b) : a.toInt < b.toInt := (fa_lt _ _).mp h
theorem z_nlt {a b : Int32} (h : ¬ a < b) : b.toInt ≤ a.toInt := (fa_le _ _).mp (fa_of_nlt h)
theorem z_eq {a b : Int32} (h : a = b) : a.toInt = b.toInt := congrArg _ h
theorem z_ne {a b : Int32} (h : ¬ a = b) : ¬ a.toInt = b.toInt := fun e => h ((fa_eq _ _).mpr e)
theorem z_ne' {a b : Int32} (h : ¬ a.toInt = b.toInt) : ¬ a = b := fun e => h (congrArg _ e)
theorem y_ler {a c : Int32} {n : Int} (e : c.toInt = n) (h : a ≤ c) : a.toInt ≤ n := e ▸ z_le h
theorem y_lel {a c : Int32} {n : Int} (e : c.toInt = n) (h : c ≤ a) : n ≤ a.toInt := e ▸ z_le h
theorem y_nler {a c : Int32} {n : Int} (e : c.toInt = n) (h : ¬ a ≤ c) : n < a.toInt := e ▸ z_nle h
theorem y_nlel {a c : Int32} {n : Int} (e : c.toInt = n) (h : ¬ c ≤ a) : a.toInt < n := e ▸ z_nle h
theorem y_ltr {a c : Int32} {n : Int} (e : c.toInt = n) (h : a < c) : a.toInt < n := e ▸ z_lt h
theorem y_ltl {a c : Int32} {n : Int} (e : c.toInt = n) (h : c < a) : n < a.toInt := e ▸ z_lt h
theorem y_nltr {a c : Int32} {n : Int} (e : c.toInt = n) (h : ¬ a < c) : n ≤ a.toInt := e ▸ z_nlt h
theorem y_nltl {a c : Int32} {n : Int} (e : c.toInt = n) (h : ¬ c < a) : a.toInt ≤ n := e ▸ z_nlt h
theorem y_eqr {a c : Int32} {n : Int} (e : c.toInt = n) (h : a = c) : a.toInt = n := e ▸ z_eq h
theorem y_eql {a c : Int32} {n : Int} (e : c.toInt = n) (h : c = a) : a.toInt = n := e ▸ (z_eq h).symm
theorem y_ner {a c : Int32} {n : Int} (e : c.toInt = n) (h : ¬ a = c) : ¬ a.toInt = n := e ▸ z_ne h
theorem y_nel {a c : Int32} {n : Int} (e : c.toInt = n) (h : ¬ c = a) : ¬ a.toInt = n := fun q => z_ne h (e.trans q.symm)
theorem y_nn {a c : Int32} {n : Int} (e : c.toInt = n) (h : ¬ a.toInt = n) : ¬ a = c := fun q => h ((congrArg _ q).trans e)
theorem vpi {x : Int32} {n : Nat} (h : 0 ≤ x.toInt) (h2 : x.toInt < (n : Int)) : vp_in x n := vp_in_iff.mpr ⟨h, h2⟩
theorem bz_of {x : Int32} (h : 0 ≤ x.toInt) (h2 : x.toInt ≤ 1) : bz x := by
  have h3 : x.toInt = 0 ∨ x.toInt = 1 := by omega
  rcases h3 with e | e
  · exact Or.inl ((fa_eq _ _).mpr e)
  · exact Or.inr ((fa_eq _ _).mpr e)
theorem ti_add {x y : Int32} (h : -2147483648 ≤ x.toInt + y.toInt ∧ x.toInt + y.toInt < 2147483648) : (x + y).toInt = x.toInt + y.toInt := fb_addI h.1 h.2
theorem ti_sub {x y : Int32} (h : -2147483648 ≤ x.toInt - y.toInt ∧ x.toInt - y.toInt < 2147483648) : (x - y).toInt = x.toInt - y.toInt := fb_subI h.1 h.2
theorem ti_addc {x y : Int32} {c : Int} (e : y.toInt = c) (h : -2147483648 ≤ x.toInt + c ∧ x.toInt + c < 2147483648) : (x + y).toInt = x.toInt + c := by
  rw [fb_addI (by rw [e]; exact h.1) (by rw [e]; exact h.2), e]
theorem ti_addl {x y : Int32} {c : Int} (e : x.toInt = c) (h : -2147483648 ≤ c + y.toInt ∧ c + y.toInt < 2147483648) : (x + y).toInt = c + y.toInt := by
  rw [fb_addI (by rw [e]; exact h.1) (by rw [e]; exact h.2), e]
theorem ti_subc {x y : Int32} {c : Int} (e : y.toInt = c) (h : -2147483648 ≤ x.toInt - c ∧ x.toInt - c < 2147483648) : (x - y).toInt = x.toInt - c := by
  rw [fb_subI (by rw [e]; exact h.1) (by rw [e]; exact h.2), e]
theorem ti_subl {x y : Int32} {c : Int} (e : x.toInt = c) (h : -2147483648 ≤ c - y.toInt ∧ c - y.toInt < 2147483648) : (x - y).toInt = c - y.toInt := by
  rw [fb_subI (by rw [e]; exact h.1) (by rw [e]; exact h.2), e]
theorem ti_mulc {c : Int} {y x : Int32} (hy : y.toInt = c) (h : -2147483648 ≤ c * x.toInt ∧ c * x.toInt < 2147483648) : (y * x).toInt = c * x.toInt := by
  rw [fb_mulI (by rw [hy]; exact h.1) (by rw [hy]; exact h.2), hy]
theorem ti_mulr {c : Int} {y x : Int32} (hy : y.toInt = c) (h : -2147483648 ≤ c * x.toInt ∧ c * x.toInt < 2147483648) : (x * y).toInt = c * x.toInt := by
  rw [fb_mulI (by rw [hy, Int.mul_comm]; exact h.1) (by rw [hy, Int.mul_comm]; exact h.2), hy, Int.mul_comm]
theorem ti_lt (a b c d : Int32) : (a.toInt < b.toInt ∧ (if a < b then c else d).toInt = c.toInt) ∨ (b.toInt ≤ a.toInt ∧ (if a < b then c else d).toInt = d.toInt) := by
  by_cases h : a < b
  · exact Or.inl ⟨z_lt h, by rw [if_pos h]⟩
  · exact Or.inr ⟨z_nlt h, by rw [if_neg h]⟩
theorem ti_ltv {a b c d : Int32} {A B C D : Int} (ha : a.toInt = A) (hb : b.toInt = B) (hc : c.toInt = C) (hd : d.toInt = D) : (A < B ∧ (if a < b then c else d).toInt = C) ∨ (B ≤ A ∧ (if a < b then c else d).toInt = D) := by
  subst ha hb hc hd
  exact ti_lt a b c d
theorem zn_of {x : Int32} (h : 0 ≤ x.toInt) : ∃ j : Nat, j < 2147483648 ∧ x = nI j :=
  nI_of (fun q => by
    have h1 := z_lt q
    have h2 : (0 : Int32).toInt = 0 := rfl
    omega)
theorem tn {x : Int32} (h : 0 ≤ x.toInt) : ((x.toNatClampNeg : Nat) : Int) = x.toInt := by
  obtain ⟨j, hj, rfl⟩ := zn_of h
  rw [nI_clamp hj, nI_toInt hj]
theorem t_and {x : Int32} {k : Nat} (hk : k < 31) {c : Int32} (hc : c = nI (2 ^ k - 1)) : 0 ≤ (x &&& c).toInt ∧ (x &&& c).toInt < 2 ^ k := by
  obtain ⟨n, hn, rfl⟩ := wb_of32 x
  rw [hc, fa_mask]
  have h1 : n % 2 ^ k < 2 ^ k := Nat.mod_lt _ (Nat.two_pow_pos k)
  have h2 : 2 ^ k < 2 ^ 31 := Nat.pow_lt_pow_right (by decide) hk
  rw [nI_toInt (by omega)]
  have h3 : (2 : Int) ^ k = ((2 ^ k : Nat) : Int) := by simp
  omega
theorem t_and1 (x : Int32) : 0 ≤ (x &&& (1 : Int32)).toInt ∧ (x &&& (1 : Int32)).toInt ≤ 1 := by have := t_and (x := x) (k := 1) (by decide) (c := 1) rfl; omega
theorem t_and7 (x : Int32) : 0 ≤ (x &&& (7 : Int32)).toInt ∧ (x &&& (7 : Int32)).toInt ≤ 7 := by have := t_and (x := x) (k := 3) (by decide) (c := 7) rfl; omega
theorem t_and8191 (x : Int32) : 0 ≤ (x &&& (8191 : Int32)).toInt ∧ (x &&& (8191 : Int32)).toInt ≤ 8191 := by have := t_and (x := x) (k := 13) (by decide) (c := 8191) rfl; omega
theorem t_and1023 (x : Int32) : 0 ≤ (x &&& (1023 : Int32)).toInt ∧ (x &&& (1023 : Int32)).toInt ≤ 1023 := by have := t_and (x := x) (k := 10) (by decide) (c := 1023) rfl; omega
theorem t_div {x y : Int32} {c : Nat} (hy : y = nI c) (hc : 0 < c) (hc2 : c < 2147483648) (h : 0 ≤ x.toInt) : (x / y).toInt = x.toInt / (c : Int) := by
  obtain ⟨j, hj, rfl⟩ := zn_of h
  rw [hy]
  have e : nI j / nI c = nI (j / c) := pk_div (by omega) hc (by omega)
  rw [e, nI_toInt (Nat.lt_of_le_of_lt (Nat.div_le_self _ _) hj), nI_toInt hj]
  simp
theorem t_shl1 {x : Int32} (h1 : 1 ≤ x.toInt) (h2 : x.toInt ≤ 6) : 2 ≤ ((1 : Int32) <<< (x &&& 31)).toInt ∧ ((1 : Int32) <<< (x &&& 31)).toInt ≤ 64 := by
  obtain ⟨j, hj, rfl⟩ := zn_of (by omega : 0 ≤ x.toInt)
  rw [nI_toInt hj] at h1 h2
  have h3 : ∀ k : Fin 7, 1 ≤ k.val → 2 ≤ ((1 : Int32) <<< (nI k.val &&& 31)).toInt ∧ ((1 : Int32) <<< (nI k.val &&& 31)).toInt ≤ 64 := by decide +kernel
  exact h3 ⟨j, by omega⟩ (by show 1 ≤ j; omega)
/-! SAFETY BY PROGRAM: what a number cell holds, where cells lie, what stays -/
def rgK (k : Nat) : Nat := if k = 0 then 23 else if k = 1 then 23 else if k = 8 then 49 else if k = 10 then 25 else if k = 11 then 25 else if k = 12 then 52 else if k = 14 then 21 else if k = 16 then 26 else if k = 17 then 20 else if k = 18 then 22 else if k = 19 then 22 else if k = 20 then 22 else if k = 21 then 22 else if k = 22 then 22 else if k = 27 then 48 else if k = 28 then 28 else if k = 30 then 29 else if k = 32 then 31 else if k = 33 then 31 else if k = 34 then 33 else if k = 35 then 33 else if k = 43 then 35 else if k = 45 then 35 else if k = 46 then 35 else if k = 48 then 37 else if k = 49 then 37 else if k = 52 then 39 else if k = 53 then 45 else 50
def rg (a k : Nat) : Nat := if a < 1 then (if k = 11 then 44 else if k = 10 then 54 else if k = 9 then 54 else if k < 12 then 7 else if k = 15 then 8 else 9) else if a < 3 then 0 else if a = 3 then (if k = 3 then 41 else if k = 4 then 41 else if k = 5 then 42 else if k < 6 then 1 else 2) else if a = 4 then 43 else if a = 7 then 14 else if a = 12 then 14 else if a < 15 then 1 else if a < 21 then 3 else if a < 26 then 4 else if a < 31 then 5 else if a = 31 then (if k = 1 then 53 else if k = 2 then 53 else 6) else if a < 133 then 6 else if a < 146 then 7 else if a < 149 then 8 else if a < 151 then 9 else if a < 156 then 10 else if a < 166 then 11 else if a < 173 then 12 else if a < 187 then 13 else if a = 187 then rgK k else if a = 188 then 24 else if a = 189 then 46 else if a = 190 then 24 else if a = 191 then 24 else if a = 192 then 24 else if a = 193 then 47 else if a = 194 then 55 else if a = 195 then 21 else if a = 196 then 26 else if a = 197 then 27 else if a = 198 then 27 else if a = 199 then 27 else if a = 200 then 48 else if a = 201 then 29 else if a = 202 then 30 else if a = 203 then 32 else if a = 204 then 34 else if a = 205 then 35 else if a = 206 then 35 else if a = 207 then 35 else if a = 208 then 35 else if a = 209 then 35 else if a = 210 then 35 else if a = 211 then 36 else if a = 212 then 38 else if a = 213 then 39 else if a = 214 then 40 else if a = 215 then 40 else if a = 216 then 40 else 51
def TY (a k : Nat) : Option (Int × Int) := if a < 146 then (if a < 135 then (if a < 10 then (if a = 0 then (if k = 15 then some (0, 12) else if k = 18 then some (0, 10) else none) else if a = 1 then (if k = 1 then some (0, 80) else none) else if a = 3 then (if k = 3 then some (0, 8) else if k = 4 then some (0, 4) else none) else if a = 5 then (if k = 4 then some (0, 40) else if k = 5 then some (0, 40) else if k = 6 then some (0, 4) else none) else none) else (if a = 10 then (if k = 4 then some (0, 40) else if k = 5 then some (0, 40) else if k = 6 then some (0, 4) else none) else if a = 15 then (if k = 1 then some (0, 8) else if k = 2 then some (0, 4) else none) else if a = 31 then (if k = 1 then some (0, 20) else if k = 2 then some (0, 19) else none) else if a = 134 then (if k = 5 then some (0, 13) else if k = 6 then some (0, 48) else none) else none)) else (if a < 140 then (if a = 135 then some (0, 7) else if a = 136 then some (0, 7) else if a = 138 then some (0, 48) else if a = 139 then some (0, 7) else none) else (if a < 142 then (if a = 140 then (if k = 5 then some (0, 13) else if k = 6 then some (0, 48) else none) else if a = 141 then some (0, 7) else none) else (if a = 142 then some (0, 7) else if a = 144 then some (0, 48) else if a = 145 then some (0, 7) else none)))) else (if a < 166 then (if a < 155 then (if a = 146 then some (0, 7) else if a = 147 then some (0, 7) else if a = 151 then (if k = 4 then some (0, 3000) else none) else if a = 154 then some (0, 3000) else none) else (if a = 155 then some (0, 8191) else if a = 156 then (if k = 6 then some (0, 2999) else none) else if a = 163 then some (-1, 2999) else if a = 165 then some (0, (k : Int)) else none)) else (if a < 203 then (if a = 166 then (if k = 3 then some (0, 2999) else none) else if a = 187 then (if k = 0 then some (1, 4) else if k = 1 then some (0, 8) else if k = 10 then some (0, 40) else if k = 11 then some (0, 12) else if k = 14 then some (0, 80) else if k = 16 then some (0, 16) else if k = 27 then some (0, 40) else if k = 28 then some (-1, 7) else if k = 30 then some (0, 20) else if k = 43 then some (0, 3000) else if k = 45 then some (0, 2999) else if k = 46 then some (0, 2000) else if k = 52 then some (0, 12) else none) else if a = 194 then (if k % 4 < 2 then some (0, 7) else none) else if a = 199 then (if k % 4 < 2 then some (0, 7) else none) else none) else (if a < 208 then (if a = 203 then some (0, 8) else if a = 207 then some (0, (k : Int)) else none) else (if a = 208 then some (-1, 2999) else if a = 210 then some (0, 3000) else if a = 213 then (if k % 3 < 2 then some (0, 7) else none) else none))))
/-! what a world has -/
abbrev RS (l : List Nat) (a k : Nat) : Prop := l.elem (rg a k) = true
def SR (b ρ : Nat) : Prop := ∀ j k, j ≤ 4 → rg (b + j) k = ρ ∧ TY (b + j) k = none
def SS (b ρ : Nat) : Prop := St b ∧ SR b ρ
def RF (f : Nat → Nat → Option Nat) : Prop := (∃ r, f 3 1 = some r ∧ (r = 5 ∨ r = 10)) ∧ (∃ r, f 3 2 = some r ∧ (r = 5 ∨ r = 10)) ∧ (∃ r, f 0 9 = some r ∧ (r = 134 ∨ r = 140)) ∧ (∃ r, f 0 10 = some r ∧ (r = 134 ∨ r = 140)) ∧ (∀ k, k < 20 → ∃ r, f 32 k = some r ∧ SS r 6) ∧ (∀ k, k < 2 → ∃ r, f 133 k = some r ∧ (r = 173 ∨ r = 180)) ∧ (∀ k, k < 20 → f 32 k = some (33 + 5 * k)) ∧ (∀ k, k < 2 → f 133 k = some (173 + 7 * k))
def WT (m : Wm) : Prop := (∀ a k lo hi, TY a k = some (lo, hi) → lo ≤ (m.1 a k).toInt ∧ (m.1 a k).toInt ≤ hi) ∧ RF m.2.2
def Fx (S : Nat → Nat → Prop) (m m' : Wm) : Prop := ∀ a k, ¬ S a k → m'.1 a k = m.1 a k ∧ m'.2.1 a k = m.2.1 a k ∧ m'.2.2 a k = m.2.2 a k
theorem Fx.rf {S : Nat → Nat → Prop} {m : Wm} : Fx S m m := fun _ _ _ => ⟨rfl, rfl, rfl⟩
theorem Fx.tr {S S' : Nat → Nat → Prop} {m m' m'' : Wm} (h : Fx S m m') (h2 : Fx S' m' m'') (hs : ∀ a k, S' a k → S a k) : Fx S m m'' := fun a k hk => by
  obtain ⟨a1, a2, a3⟩ := h a k hk
  obtain ⟨b1, b2, b3⟩ := h2 a k (fun q => hk (hs a k q))
  exact ⟨b1.trans a1, b2.trans a2, b3.trans a3⟩
theorem Fx.i {S : Nat → Nat → Prop} {m m' : Wm} {a k : Nat} {v : Int32} (h : Fx S m m') (hS : S a k) : Fx S m (uI m' a k v) := fun b j hj => ⟨(if_neg (fun q => hj (by rw [q.1, q.2]; exact hS))).trans (h b j hj).1, (h b j hj).2⟩
theorem Fx.l {S : Nat → Nat → Prop} {m m' : Wm} {a k : Nat} {v : Int64} (h : Fx S m m') (hS : S a k) : Fx S m (uL m' a k v) := fun b j hj => ⟨(h b j hj).1, (if_neg (fun q => hj (by rw [q.1, q.2]; exact hS))).trans (h b j hj).2.1, (h b j hj).2.2⟩
theorem Fx.r {S : Nat → Nat → Prop} {m m' : Wm} {a k : Nat} {v : Option Nat} (h : Fx S m m') (hS : S a k) : Fx S m (uR m' a k v) := fun b j hj => ⟨(h b j hj).1, (h b j hj).2.1, (if_neg (fun q => hj (by rw [q.1, q.2]; exact hS))).trans (h b j hj).2.2⟩
theorem Fx.c {S : Nat → Nat → Prop} {m m' : Wm} {a a0 s e n : Nat} (h : Fx S m m') (hS : ∀ k, S a k) : Fx S m (uC m' a0 a s e n) := fun b j hj => ⟨(if_neg (fun (q : b = a) => hj (by rw [q]; exact hS j))).trans (h b j hj).1, (h b j hj).2⟩
theorem Fx.at {S : Nat → Nat → Prop} {m m' : Wm} (h : Fx S m m') {a k : Nat} (hS : ¬ S a k) : m'.1 a k = m.1 a k := (h a k hS).1
theorem RS_sub {l1 l2 : List Nat} (h : (l1.all fun x => l2.elem x) = true) (a k : Nat) (hk : RS l1 a k) : RS l2 a k :=
  List.all_eq_true.mp h _ (List.mem_of_elem_eq_true hk)
theorem RS_cons {l1 l2 : List Nat} {ρ : Nat} (h : (l1.all fun x => l2.elem x) = true) (a k : Nat) (hk : RS (ρ :: l1) a k) : RS (ρ :: l2) a k := by
  have h1 := List.mem_of_elem_eq_true hk
  refine List.elem_eq_true_of_mem ?_
  rcases List.mem_cons.mp h1 with e | e
  · rw [e]; exact List.mem_cons_self
  · exact List.mem_cons_of_mem _ (List.mem_of_elem_eq_true (List.all_eq_true.mp h _ e))
theorem RS_tl {l1 l2 : List Nat} {ρ : Nat} (h : (l1.all fun x => l2.elem x) = true) (a k : Nat) (hk : RS l1 a k) : RS (ρ :: l2) a k :=
  List.elem_eq_true_of_mem (List.mem_cons_of_mem _ (List.mem_of_elem_eq_true (List.all_eq_true.mp h _ (List.mem_of_elem_eq_true hk))))
theorem RS_hd {l : List Nat} {b ρ j k : Nat} (h : SR b ρ) (hj : j ≤ 4) : RS (ρ :: l) (b + j) k := by
  unfold RS
  rw [(h j k hj).1]
  exact List.elem_eq_true_of_mem List.mem_cons_self
theorem RS_hd0 {l : List Nat} {b ρ k : Nat} (h : SR b ρ) : RS (ρ :: l) b k := RS_hd (j := 0) h (by decide)
theorem WT.at {m : Wm} (h : WT m) {a k : Nat} {lo hi : Int} (e : TY a k = some (lo, hi)) : lo ≤ (m.1 a k).toInt ∧ (m.1 a k).toInt ≤ hi := h.1 a k lo hi e
theorem WT.t {m : Wm} (h : WT m) {a k : Nat} {lo hi : Int} {v : Int32} (e : TY a k = some (lo, hi)) (h1 : lo ≤ v.toInt) (h2 : v.toInt ≤ hi) : WT (uI m a k v) := ⟨fun b j lo' hi' e' => by
    show lo' ≤ (if b = a ∧ j = k then v else m.1 b j).toInt ∧ (if b = a ∧ j = k then v else m.1 b j).toInt ≤ hi'
    by_cases hc : b = a ∧ j = k
    · rw [if_pos hc]
      obtain ⟨rfl, rfl⟩ := hc
      rw [e] at e'
      cases e'
      exact ⟨h1, h2⟩
    · rw [if_neg hc]
      exact h.1 b j lo' hi' e', h.2⟩
theorem WT.n {m : Wm} (h : WT m) {a k : Nat} {v : Int32} (e : TY a k = none) : WT (uI m a k v) := ⟨fun b j lo' hi' e' => by
    show lo' ≤ (if b = a ∧ j = k then v else m.1 b j).toInt ∧ (if b = a ∧ j = k then v else m.1 b j).toInt ≤ hi'
    by_cases hc : b = a ∧ j = k
    · obtain ⟨rfl, rfl⟩ := hc
      rw [e] at e'
      cases e'
    · rw [if_neg hc]
      exact h.1 b j lo' hi' e', h.2⟩
theorem WT.l {m : Wm} (h : WT m) {a k : Nat} {v : Int64} : WT (uL m a k v) := h
theorem WT.c {m : Wm} (h : WT m) {a0 a s e n : Nat} (hn : ∀ k, TY a k = none) : WT (uC m a0 a s e n) := ⟨fun b j lo hi e' => by
    show lo ≤ (if b = a then va_cpy (m.1 a0) (m.1 a) s e n j else m.1 b j).toInt ∧ (if b = a then va_cpy (m.1 a0) (m.1 a) s e n j else m.1 b j).toInt ≤ hi
    by_cases hc : b = a
    · subst hc
      rw [hn j] at e'
      cases e'
    · rw [if_neg hc]
      exact h.1 b j lo hi e', h.2⟩
theorem WT.s {m : Wm} (h : WT m) {b ρ j k : Nat} {v : Int32} (hb : SR b ρ) (hj : j ≤ 4) : WT (uI m (b + j) k v) := h.n (hb j k hj).2
theorem WT.s0 {m : Wm} (h : WT m) {b ρ k : Nat} {v : Int32} (hb : SR b ρ) : WT (uI m b k v) := h.n (hb 0 k (by decide)).2
theorem WT.r31 {m : Wm} (h : WT m) : ∃ r, m.2.2 3 1 = some r ∧ (r = 5 ∨ r = 10) := h.2.1
theorem WT.r32 {m : Wm} (h : WT m) : ∃ r, m.2.2 3 2 = some r ∧ (r = 5 ∨ r = 10) := h.2.2.1
theorem WT.r09 {m : Wm} (h : WT m) : ∃ r, m.2.2 0 9 = some r ∧ (r = 134 ∨ r = 140) := h.2.2.2.1
theorem WT.r010 {m : Wm} (h : WT m) : ∃ r, m.2.2 0 10 = some r ∧ (r = 134 ∨ r = 140) := h.2.2.2.2.1
theorem WT.ring {m : Wm} (h : WT m) {x : Int32} (h0 : 0 ≤ x.toInt) (h1 : x.toInt < 20) : ∃ r, m.2.2 32 x.toNatClampNeg = some r ∧ SS r 6 := h.2.2.2.2.2.1 _ (by have := tn h0; omega)
theorem WT.keep {m : Wm} (h : WT m) {x : Int32} (h0 : 0 ≤ x.toInt) (h1 : x.toInt < 2) : ∃ r, m.2.2 133 x.toNatClampNeg = some r ∧ (r = 173 ∨ r = 180) := h.2.2.2.2.2.2.1 _ (by have := tn h0; omega)
theorem WT.ringx {m : Wm} (h : WT m) {k : Nat} (hk : k < 20) : m.2.2 32 k = some (33 + 5 * k) := h.2.2.2.2.2.2.2.1 k hk
theorem WT.keepx {m : Wm} (h : WT m) {k : Nat} (hk : k < 2) : m.2.2 133 k = some (173 + 7 * k) := h.2.2.2.2.2.2.2.2 k hk
theorem Ru_of {r : Nat} (h : r = 5 ∨ r = 10) : Ru r := by rcases h with rfl | rfl; exact Ru_5; exact Ru_10
theorem Pl_of {r : Nat} (h : r = 134 ∨ r = 140) : Pl r := by rcases h with rfl | rfl; exact Pl_134; exact Pl_140
theorem Ke_of {r : Nat} (h : r = 173 ∨ r = 180) : Ke r := by rcases h with rfl | rfl; exact Ke_173; exact Ke_180
theorem WT.pl {m : Wm} (h : WT m) {r k : Nat} {lo hi : Int} (hr : r = 134 ∨ r = 140) (e : TY 134 k = some (lo, hi)) (e2 : TY 140 k = some (lo, hi)) : lo ≤ (m.1 r k).toInt ∧ (m.1 r k).toInt ≤ hi := by
  rcases hr with rfl | rfl
  · exact h.at e
  · exact h.at e2
theorem WT.plj {m : Wm} (h : WT m) {r j k : Nat} {lo hi : Int} (hr : r = 134 ∨ r = 140) (e : TY (134 + j) k = some (lo, hi)) (e2 : TY (140 + j) k = some (lo, hi)) : lo ≤ (m.1 (r + j) k).toInt ∧ (m.1 (r + j) k).toInt ≤ hi := by
  rcases hr with rfl | rfl
  · exact h.at e
  · exact h.at e2
theorem WT.rR {m : Wm} (h : WT m) {k r : Nat} (hk : k = 1 ∨ k = 2) (hr : r = 5 ∨ r = 10) : WT (uR m 3 k (some r)) := ⟨h.1, by
  obtain ⟨h1, h2, h3, h4, h5, h6, h7, h8⟩ := h.2
  refine ⟨?_, ?_, h3, h4, fun j hj => ?_, fun j hj => ?_, fun j hj => h7 j hj, fun j hj => h8 j hj⟩
  · rcases hk with rfl | rfl
    · exact ⟨r, rfl, hr⟩
    · exact h1
  · rcases hk with rfl | rfl
    · exact h2
    · exact ⟨r, rfl, hr⟩
  · exact h5 j hj
  · exact h6 j hj⟩
theorem WT.rP {m : Wm} (h : WT m) {k r : Nat} (hk : k = 9 ∨ k = 10) (hr : r = 134 ∨ r = 140) : WT (uR m 0 k (some r)) := ⟨h.1, by
  obtain ⟨h1, h2, h3, h4, h5, h6, h7, h8⟩ := h.2
  refine ⟨h1, h2, ?_, ?_, fun j hj => ?_, fun j hj => ?_, fun j hj => h7 j hj, fun j hj => h8 j hj⟩
  · rcases hk with rfl | rfl
    · exact ⟨r, rfl, hr⟩
    · exact h3
  · rcases hk with rfl | rfl
    · exact h4
    · exact ⟨r, rfl, hr⟩
  · exact h5 j hj
  · exact h6 j hj⟩
theorem WT.r18 {m : Wm} (h : WT m) {r : Option Nat} : WT (uR m 187 18 r) := ⟨h.1, by
  obtain ⟨h1, h2, h3, h4, h5, h6, h7, h8⟩ := h.2
  exact ⟨h1, h2, h3, h4, fun j hj => h5 j hj, fun j hj => h6 j hj, fun j hj => h7 j hj, fun j hj => h8 j hj⟩⟩
theorem SS_21 : SS 21 4 := by
  refine ⟨St_21, fun j k hj => ?_⟩
  have h : j = 0 ∨ j = 1 ∨ j = 2 ∨ j = 3 ∨ j = 4 := by omega
  rcases h with rfl | rfl | rfl | rfl | rfl
  all_goals exact ⟨rfl, rfl⟩
theorem SS_26 : SS 26 5 := by
  refine ⟨St_26, fun j k hj => ?_⟩
  have h : j = 0 ∨ j = 1 ∨ j = 2 ∨ j = 3 ∨ j = 4 := by omega
  rcases h with rfl | rfl | rfl | rfl | rfl
  all_goals exact ⟨rfl, rfl⟩
theorem SS_16 : SS 16 3 := by
  refine ⟨St_16, fun j k hj => ?_⟩
  have h : j = 0 ∨ j = 1 ∨ j = 2 ∨ j = 3 ∨ j = 4 := by omega
  rcases h with rfl | rfl | rfl | rfl | rfl
  all_goals exact ⟨rfl, rfl⟩
theorem SS_157 : SS 157 11 := by
  refine ⟨St_157, fun j k hj => ?_⟩
  have h : j = 0 ∨ j = 1 ∨ j = 2 ∨ j = 3 ∨ j = 4 := by omega
  rcases h with rfl | rfl | rfl | rfl | rfl
  all_goals exact ⟨rfl, rfl⟩
theorem SS_167 : SS 167 12 := by
  refine ⟨St_167, fun j k hj => ?_⟩
  have h : j = 0 ∨ j = 1 ∨ j = 2 ∨ j = 3 ∨ j = 4 := by omega
  rcases h with rfl | rfl | rfl | rfl | rfl
  all_goals exact ⟨rfl, rfl⟩
theorem SS_174 : SS (173 + 1) 13 := by
  refine ⟨St_174, fun j k hj => ?_⟩
  have h : j = 0 ∨ j = 1 ∨ j = 2 ∨ j = 3 ∨ j = 4 := by omega
  rcases h with rfl | rfl | rfl | rfl | rfl
  all_goals exact ⟨rfl, rfl⟩
theorem SS_181 : SS (180 + 1) 13 := by
  refine ⟨St_181, fun j k hj => ?_⟩
  have h : j = 0 ∨ j = 1 ∨ j = 2 ∨ j = 3 ∨ j = 4 := by omega
  rcases h with rfl | rfl | rfl | rfl | rfl
  all_goals exact ⟨rfl, rfl⟩
/-! one league copied over another -/
theorem s_X8_copy {ad : Nat → Nat} {d : Nat} {m : Wm} {b0 b1 ρ0 ρ1 : Nat} (w : WT m) (hb0 : SS b0 ρ0) (hb1 : SS b1 ρ1) : Ct ad μX8_copy (d + 1) [.ref (ad b0), .ref (ad b1)] m (fun r m' => WT m' ∧ Fx (RS (ρ0 :: [])) m m' ∧ r = none) := by
  have h := hb0.2
  refine v_X8_copy hb0.1 hb1.1 ⟨by decide, by decide, by decide, by decide, by decide, by decide, by decide, by decide, by decide, by decide, by decide, by decide, by decide, by decide, by decide, by decide, by decide, by decide, by decide, by decide, ?_⟩
  exact ⟨((((w.c (fun k => (h 1 k (by decide)).2)).c (fun k => (h 2 k (by decide)).2)).c (fun k => (h 3 k (by decide)).2)).c (fun k => (h 4 k (by decide)).2)).s0 h, ((((Fx.rf.c (fun k => RS_hd h (by decide))).c (fun k => RS_hd h (by decide))).c (fun k => RS_hd h (by decide))).c (fun k => RS_hd h (by decide))).i (RS_hd0 h), rfl⟩
theorem s_J6_bitCount {ad : Nat → Nat} {d : Nat} {m : Wm} {x : Int32} (w : WT m) : Ct ad μJ6_bitCount d [.int x] m (fun r m' => WT m' ∧ Fx (RS []) m m' ∧ ∃ v : Int32, r = some (.int v)) :=
  v_bitCount.to (by rintro _ _ ⟨rfl, rfl⟩; exact ⟨w, Fx.rf, _, rfl⟩)
end
section
/-! SAFETY OF THE CLASS, BY PROGRAM (X1_allows .. X2_takeBack) -/
set_option maxHeartbeats 4000000 in
theorem s_X1_allows {ad : Nat → Nat} {d : Nat} {m : Wm} {x0 x1 : Int32} (w : WT m) : Ct ad μX1_allows d [.int x0, .int x1] m (fun r m' => WT m' ∧ Fx (RS []) m m' ∧ ∃ v : Int32, r = some (.int v) ∧ (0 : Int) ≤ v.toInt ∧ v.toInt ≤ 1 ∧ (v.toInt = 0 ∨ (0 ≤ x0.toInt ∧ x0.toInt ≤ 4))) := by
  have f : Fx (RS []) m m := Fx.rf
  refine v_X1_allows  ?_
  refine ⟨?_, ?_, ?_, ?_, ?_, ?_⟩
  · intro c1
    have k2 := y_eqr (n := 0) rfl c1
    refine ⟨?_, ?_⟩
    · intro c3
      have k4 := y_ltr (n := 0) rfl c3
      exact ⟨w, f, _, rfl, (by show (0 : Int) ≤ (0 : Int); omega), (by show (0 : Int) ≤ (1 : Int); omega), (by show (0 : Int) = 0 ∨ (0 ≤ x0.toInt ∧ x0.toInt ≤ 4); omega)⟩
    · intro c5
      have k6 := y_nltr (n := 0) rfl c5
      refine ⟨?_, ?_⟩
      · intro c7
        have k8 := y_ltl (n := 3) rfl c7
        exact ⟨w, f, _, rfl, (by show (0 : Int) ≤ (0 : Int); omega), (by show (0 : Int) ≤ (1 : Int); omega), (by show (0 : Int) = 0 ∨ (0 ≤ x0.toInt ∧ x0.toInt ≤ 4); omega)⟩
      · intro c9
        have k10 := y_nltl (n := 3) rfl c9
        exact ⟨w, f, _, rfl, (by show (0 : Int) ≤ (1 : Int); omega), (by show (1 : Int) ≤ (1 : Int); omega), (by show (1 : Int) = 0 ∨ (0 ≤ x0.toInt ∧ x0.toInt ≤ 4); omega)⟩
  · intro c11
    have k12 := y_eqr (n := 1) rfl c11
    refine ⟨?_, ?_⟩
    · intro c13
      have k14 := y_ltr (n := 1) rfl c13
      exact ⟨w, f, _, rfl, (by show (0 : Int) ≤ (0 : Int); omega), (by show (0 : Int) ≤ (1 : Int); omega), (by show (0 : Int) = 0 ∨ (0 ≤ x0.toInt ∧ x0.toInt ≤ 4); omega)⟩
    · intro c15
      have k16 := y_nltr (n := 1) rfl c15
      refine ⟨?_, ?_⟩
      · intro c17
        have k18 := y_ltl (n := 3) rfl c17
        exact ⟨w, f, _, rfl, (by show (0 : Int) ≤ (0 : Int); omega), (by show (0 : Int) ≤ (1 : Int); omega), (by show (0 : Int) = 0 ∨ (0 ≤ x0.toInt ∧ x0.toInt ≤ 4); omega)⟩
      · intro c19
        have k20 := y_nltl (n := 3) rfl c19
        exact ⟨w, f, _, rfl, (by show (0 : Int) ≤ (1 : Int); omega), (by show (1 : Int) ≤ (1 : Int); omega), (by show (1 : Int) = 0 ∨ (0 ≤ x0.toInt ∧ x0.toInt ≤ 4); omega)⟩
  · intro c21
    have k22 := y_eqr (n := 2) rfl c21
    refine ⟨?_, ?_⟩
    · intro c23
      have k24 := y_ltr (n := 0) rfl c23
      exact ⟨w, f, _, rfl, (by show (0 : Int) ≤ (0 : Int); omega), (by show (0 : Int) ≤ (1 : Int); omega), (by show (0 : Int) = 0 ∨ (0 ≤ x0.toInt ∧ x0.toInt ≤ 4); omega)⟩
    · intro c25
      have k26 := y_nltr (n := 0) rfl c25
      refine ⟨?_, ?_⟩
      · intro c27
        have k28 := y_ltl (n := 2) rfl c27
        exact ⟨w, f, _, rfl, (by show (0 : Int) ≤ (0 : Int); omega), (by show (0 : Int) ≤ (1 : Int); omega), (by show (0 : Int) = 0 ∨ (0 ≤ x0.toInt ∧ x0.toInt ≤ 4); omega)⟩
      · intro c29
        have k30 := y_nltl (n := 2) rfl c29
        exact ⟨w, f, _, rfl, (by show (0 : Int) ≤ (1 : Int); omega), (by show (1 : Int) ≤ (1 : Int); omega), (by show (1 : Int) = 0 ∨ (0 ≤ x0.toInt ∧ x0.toInt ≤ 4); omega)⟩
  · intro c31
    have k32 := y_eqr (n := 3) rfl c31
    refine ⟨?_, ?_⟩
    · intro c33
      have k34 := y_ltr (n := 0) rfl c33
      exact ⟨w, f, _, rfl, (by show (0 : Int) ≤ (0 : Int); omega), (by show (0 : Int) ≤ (1 : Int); omega), (by show (0 : Int) = 0 ∨ (0 ≤ x0.toInt ∧ x0.toInt ≤ 4); omega)⟩
    · intro c35
      have k36 := y_nltr (n := 0) rfl c35
      refine ⟨?_, ?_⟩
      · intro c37
        have k38 := y_ltl (n := 99) rfl c37
        exact ⟨w, f, _, rfl, (by show (0 : Int) ≤ (0 : Int); omega), (by show (0 : Int) ≤ (1 : Int); omega), (by show (0 : Int) = 0 ∨ (0 ≤ x0.toInt ∧ x0.toInt ≤ 4); omega)⟩
      · intro c39
        have k40 := y_nltl (n := 99) rfl c39
        exact ⟨w, f, _, rfl, (by show (0 : Int) ≤ (1 : Int); omega), (by show (1 : Int) ≤ (1 : Int); omega), (by show (1 : Int) = 0 ∨ (0 ≤ x0.toInt ∧ x0.toInt ≤ 4); omega)⟩
  · intro c41
    have k42 := y_eqr (n := 4) rfl c41
    refine ⟨?_, ?_⟩
    · intro c43
      have k44 := y_ltr (n := 0) rfl c43
      exact ⟨w, f, _, rfl, (by show (0 : Int) ≤ (0 : Int); omega), (by show (0 : Int) ≤ (1 : Int); omega), (by show (0 : Int) = 0 ∨ (0 ≤ x0.toInt ∧ x0.toInt ≤ 4); omega)⟩
    · intro c45
      have k46 := y_nltr (n := 0) rfl c45
      refine ⟨?_, ?_⟩
      · intro c47
        have k48 := y_ltl (n := 50) rfl c47
        exact ⟨w, f, _, rfl, (by show (0 : Int) ≤ (0 : Int); omega), (by show (0 : Int) ≤ (1 : Int); omega), (by show (0 : Int) = 0 ∨ (0 ≤ x0.toInt ∧ x0.toInt ≤ 4); omega)⟩
      · intro c49
        have k50 := y_nltl (n := 50) rfl c49
        exact ⟨w, f, _, rfl, (by show (0 : Int) ≤ (1 : Int); omega), (by show (1 : Int) ≤ (1 : Int); omega), (by show (1 : Int) = 0 ∨ (0 ≤ x0.toInt ∧ x0.toInt ≤ 4); omega)⟩
  · intro c51
    have k52 := y_ner (n := 0) rfl c51
    intro c53
    have k54 := y_ner (n := 1) rfl c53
    intro c55
    have k56 := y_ner (n := 2) rfl c55
    intro c57
    have k58 := y_ner (n := 3) rfl c57
    intro c59
    have k60 := y_ner (n := 4) rfl c59
    exact ⟨w, f, _, rfl, (by show (0 : Int) ≤ (0 : Int); omega), (by show (0 : Int) ≤ (1 : Int); omega), (by show (0 : Int) = 0 ∨ (0 ≤ x0.toInt ∧ x0.toInt ≤ 4); omega)⟩
set_option maxHeartbeats 4000000 in
theorem s_X1_has {ad : Nat → Nat} {d : Nat} {m : Wm} {x1 : Int32} (w : WT m) : Ct ad μX1_has d [.ref (ad 3), .int x1] m (fun r m' => WT m' ∧ Fx (RS []) m m' ∧ ∃ v : Int32, r = some (.int v) ∧ (0 : Int) ≤ v.toInt ∧ v.toInt ≤ 1 ∧ ((v.toInt = 0 ∧ (x1.toInt < 0 ∨ (m.1 3 3).toInt ≤ x1.toInt)) ∨ (v.toInt = 1 ∧ 0 ≤ x1.toInt ∧ x1.toInt < (m.1 3 3).toInt ∧ x1.toInt ≤ 7))) := by
  have f : Fx (RS []) m m := Fx.rf
  refine v_X1_has  ?_
  refine ⟨?_, ?_⟩
  · intro c1
    have k2 := y_ltr (n := 0) rfl c1
    exact ⟨w, f, _, rfl, (by show (0 : Int) ≤ (0 : Int); omega), (by show (0 : Int) ≤ (1 : Int); omega), (by show ((0 : Int) = 0 ∧ (x1.toInt < 0 ∨ (m.1 3 3).toInt ≤ x1.toInt)) ∨ ((0 : Int) = 1 ∧ 0 ≤ x1.toInt ∧ x1.toInt < (m.1 3 3).toInt ∧ x1.toInt ≤ 7); omega)⟩
  · intro c3
    have k4 := y_nltr (n := 0) rfl c3
    refine ⟨?_, ?_⟩
    · intro c5
      have r6 := w.at (a := 3) (k := 3) rfl
      have k7 := z_le c5
      exact ⟨w, f, _, rfl, (by show (0 : Int) ≤ (0 : Int); omega), (by show (0 : Int) ≤ (1 : Int); omega), (by show ((0 : Int) = 0 ∧ (x1.toInt < 0 ∨ (m.1 3 3).toInt ≤ x1.toInt)) ∨ ((0 : Int) = 1 ∧ 0 ≤ x1.toInt ∧ x1.toInt < (m.1 3 3).toInt ∧ x1.toInt ≤ 7); omega)⟩
    · intro c8
      have r9 := w.at (a := 3) (k := 3) rfl
      have k10 := z_nle c8
      exact ⟨w, f, _, rfl, (by show (0 : Int) ≤ (1 : Int); omega), (by show (1 : Int) ≤ (1 : Int); omega), (by show ((1 : Int) = 0 ∧ (x1.toInt < 0 ∨ (m.1 3 3).toInt ≤ x1.toInt)) ∨ ((1 : Int) = 1 ∧ 0 ≤ x1.toInt ∧ x1.toInt < (m.1 3 3).toInt ∧ x1.toInt ≤ 7); omega)⟩
set_option maxHeartbeats 4000000 in
theorem s_X1_knows {ad : Nat → Nat} {d : Nat} {m : Wm} {x1 : Int32} (w : WT m) : Ct ad μX1_knows d [.ref (ad 3), .int x1] m (fun r m' => WT m' ∧ Fx (RS []) m m' ∧ ∃ v : Int32, r = some (.int v) ∧ (0 : Int) ≤ v.toInt ∧ v.toInt ≤ 1) := by
  have f : Fx (RS []) m m := Fx.rf
  refine v_X1_knows  ?_
  refine ⟨?_, ?_⟩
  · intro c1
    have k2 := y_ltr (n := 0) rfl c1
    exact ⟨w, f, _, rfl, (by show (0 : Int) ≤ (0 : Int); omega), (by show (0 : Int) ≤ (1 : Int); omega)⟩
  · intro c3
    have k4 := y_nltr (n := 0) rfl c3
    refine ⟨?_, ?_⟩
    · intro c5
      have r6 := w.at (a := 3) (k := 4) rfl
      have k7 := z_le c5
      exact ⟨w, f, _, rfl, (by show (0 : Int) ≤ (0 : Int); omega), (by show (0 : Int) ≤ (1 : Int); omega)⟩
    · intro c8
      have r9 := w.at (a := 3) (k := 4) rfl
      have k10 := z_nle c8
      exact ⟨w, f, _, rfl, (by show (0 : Int) ≤ (1 : Int); omega), (by show (1 : Int) ≤ (1 : Int); omega)⟩
set_option maxHeartbeats 4000000 in
theorem s_X1_isIll {ad : Nat → Nat} {d : Nat} {m : Wm} {x1 : Int32} (w : WT m) : Ct ad μX1_isIll d [.ref (ad 3), .int x1] m (fun r m' => WT m' ∧ Fx (RS []) m m' ∧ ∃ v : Int32, r = some (.int v) ∧ (0 : Int) ≤ v.toInt ∧ v.toInt ≤ 1) := by
  have f : Fx (RS []) m m := Fx.rf
  refine v_X1_isIll  ?_
  refine ⟨?_, ?_⟩
  · intro c1
    have t2 := t_and1 ((m.1 3 5) >>> (x1 &&& 31))
    have k3 := y_eqr (n := 0) rfl c1
    exact ⟨w, f, _, rfl, (by show (0 : Int) ≤ (0 : Int); omega), (by show (0 : Int) ≤ (1 : Int); omega)⟩
  · intro c4
    have t5 := t_and1 ((m.1 3 5) >>> (x1 &&& 31))
    have k6 := y_ner (n := 0) rfl c4
    exact ⟨w, f, _, rfl, (by show (0 : Int) ≤ (1 : Int); omega), (by show (1 : Int) ≤ (1 : Int); omega)⟩
set_option maxHeartbeats 4000000 in
theorem s_X1_canMeet {ad : Nat → Nat} {d : Nat} {m : Wm} {x1 x2 : Int32} (w : WT m) : Ct ad μX1_canMeet (d + 1) [.ref (ad 3), .int x1, .int x2] m (fun r m' => WT m' ∧ Fx (RS []) m m' ∧ ∃ v : Int32, r = some (.int v) ∧ (0 : Int) ≤ v.toInt ∧ v.toInt ≤ 1 ∧ ((v.toInt = 0 ∧ (x1.toInt < 0 ∨ (m.1 3 3).toInt ≤ x1.toInt ∨ x2.toInt < 0 ∨ (m.1 3 3).toInt ≤ x2.toInt ∨ x1.toInt = x2.toInt)) ∨ (v.toInt = 1 ∧ 0 ≤ x1.toInt ∧ x1.toInt < (m.1 3 3).toInt ∧ x1.toInt ≤ 7 ∧ 0 ≤ x2.toInt ∧ x2.toInt < (m.1 3 3).toInt ∧ x2.toInt ≤ 7 ∧ x1.toInt ≠ x2.toInt))) := by
  have f : Fx (RS []) m m := Fx.rf
  refine v_X1_canMeet  ?_
  refine (s_X1_has w).to ?_
  rintro _ m1 ⟨w_m1, g1, v2, rfl, p3, p4, p2⟩
  have f_m1 : Fx (RS []) m m1 := f.tr g1 (RS_sub rfl)
  have p5 : (v2.toInt = 0 ∧ ((x1).toInt < 0 ∨ ((m.1 3 3)).toInt ≤ (x1).toInt)) ∨ (v2.toInt = 1 ∧ 0 ≤ (x1).toInt ∧ (x1).toInt < ((m.1 3 3)).toInt ∧ (x1).toInt ≤ 7) := p2
  clear p2
  have e6 : (m1.1 3 3).toInt = ((m.1 3 3)).toInt := congrArg _ (g1.at (a := 3) (k := 3) (by decide))
  refine ⟨v2, rfl, ?_⟩
  refine ⟨?_, ?_⟩
  · intro c7
    have k8 := y_eqr (n := 0) rfl c7
    exact ⟨w_m1, f_m1, _, rfl, (by show (0 : Int) ≤ (0 : Int); omega), (by show (0 : Int) ≤ (1 : Int); omega), (by show ((0 : Int) = 0 ∧ (x1.toInt < 0 ∨ (m.1 3 3).toInt ≤ x1.toInt ∨ x2.toInt < 0 ∨ (m.1 3 3).toInt ≤ x2.toInt ∨ x1.toInt = x2.toInt)) ∨ ((0 : Int) = 1 ∧ 0 ≤ x1.toInt ∧ x1.toInt < (m.1 3 3).toInt ∧ x1.toInt ≤ 7 ∧ 0 ≤ x2.toInt ∧ x2.toInt < (m.1 3 3).toInt ∧ x2.toInt ≤ 7 ∧ x1.toInt ≠ x2.toInt); omega)⟩
  · intro c9
    have k10 := y_ner (n := 0) rfl c9
    refine (s_X1_has w_m1).to ?_
    rintro _ m3 ⟨w_m3, g11, v4, rfl, p13, p14, p12⟩
    have f_m3 : Fx (RS []) m m3 := f_m1.tr g11 (RS_sub rfl)
    have p15 : (v4.toInt = 0 ∧ ((x2).toInt < 0 ∨ ((m1.1 3 3)).toInt ≤ (x2).toInt)) ∨ (v4.toInt = 1 ∧ 0 ≤ (x2).toInt ∧ (x2).toInt < ((m1.1 3 3)).toInt ∧ (x2).toInt ≤ 7) := p12
    clear p12
    have e16 : (m3.1 3 3).toInt = ((m1.1 3 3)).toInt := congrArg _ (g11.at (a := 3) (k := 3) (by decide))
    refine ⟨v4, rfl, ?_⟩
    refine ⟨?_, ?_⟩
    · intro c17
      have k18 := y_eqr (n := 0) rfl c17
      exact ⟨w_m3, f_m3, _, rfl, (by show (0 : Int) ≤ (0 : Int); omega), (by show (0 : Int) ≤ (1 : Int); omega), (by show ((0 : Int) = 0 ∧ (x1.toInt < 0 ∨ (m.1 3 3).toInt ≤ x1.toInt ∨ x2.toInt < 0 ∨ (m.1 3 3).toInt ≤ x2.toInt ∨ x1.toInt = x2.toInt)) ∨ ((0 : Int) = 1 ∧ 0 ≤ x1.toInt ∧ x1.toInt < (m.1 3 3).toInt ∧ x1.toInt ≤ 7 ∧ 0 ≤ x2.toInt ∧ x2.toInt < (m.1 3 3).toInt ∧ x2.toInt ≤ 7 ∧ x1.toInt ≠ x2.toInt); omega)⟩
    · intro c19
      have k20 := y_ner (n := 0) rfl c19
      refine ⟨?_, ?_⟩
      · intro c21
        have k22 := z_eq c21
        exact ⟨w_m3, f_m3, _, rfl, (by show (0 : Int) ≤ (0 : Int); omega), (by show (0 : Int) ≤ (1 : Int); omega), (by show ((0 : Int) = 0 ∧ (x1.toInt < 0 ∨ (m.1 3 3).toInt ≤ x1.toInt ∨ x2.toInt < 0 ∨ (m.1 3 3).toInt ≤ x2.toInt ∨ x1.toInt = x2.toInt)) ∨ ((0 : Int) = 1 ∧ 0 ≤ x1.toInt ∧ x1.toInt < (m.1 3 3).toInt ∧ x1.toInt ≤ 7 ∧ 0 ≤ x2.toInt ∧ x2.toInt < (m.1 3 3).toInt ∧ x2.toInt ≤ 7 ∧ x1.toInt ≠ x2.toInt); omega)⟩
      · intro c23
        have k24 := z_ne c23
        exact ⟨w_m3, f_m3, _, rfl, (by show (0 : Int) ≤ (1 : Int); omega), (by show (1 : Int) ≤ (1 : Int); omega), (by show ((1 : Int) = 0 ∧ (x1.toInt < 0 ∨ (m.1 3 3).toInt ≤ x1.toInt ∨ x2.toInt < 0 ∨ (m.1 3 3).toInt ≤ x2.toInt ∨ x1.toInt = x2.toInt)) ∨ ((1 : Int) = 1 ∧ 0 ≤ x1.toInt ∧ x1.toInt < (m.1 3 3).toInt ∧ x1.toInt ≤ 7 ∧ 0 ≤ x2.toInt ∧ x2.toInt < (m.1 3 3).toInt ∧ x2.toInt ≤ 7 ∧ x1.toInt ≠ x2.toInt); omega)⟩
set_option maxHeartbeats 4000000 in
theorem s_X8_skillOf {ad : Nat → Nat} {d : Nat} {m : Wm} {b0 ρ0 : Nat} {x1 x2 : Int32} (w : WT m) (hb0 : SS b0 ρ0) : Ct ad μX8_skillOf d [.ref (ad b0), .int x1, .int x2] m (fun r m' => WT m' ∧ Fx (RS []) m m' ∧ ∃ v : Int32, r = some (.int v)) := by
  have f : Fx (RS []) m m := Fx.rf
  refine v_X8_skillOf hb0.1 ?_
  refine ⟨?_, ?_⟩
  · intro c1
    have k2 := y_ltr (n := 0) rfl c1
    exact ⟨w, f, _, rfl⟩
  · intro c3
    have k4 := y_nltr (n := 0) rfl c3
    refine ⟨?_, ?_⟩
    · intro c5
      have k6 := y_lel (n := 32) rfl c5
      exact ⟨w, f, _, rfl⟩
    · intro c7
      have k8 := y_nlel (n := 32) rfl c7
      refine ⟨?_, ?_⟩
      · exact vpi (by omega) (by omega)
      · exact ⟨w, f, _, rfl⟩
set_option maxHeartbeats 4000000 in
theorem s_X8_putSkill {ad : Nat → Nat} {d : Nat} {m : Wm} {b0 ρ0 : Nat} {x1 x2 x3 : Int32} (w : WT m) (hb0 : SS b0 ρ0) : Ct ad μX8_putSkill d [.ref (ad b0), .int x1, .int x2, .int x3] m (fun r m' => WT m' ∧ Fx (RS (ρ0 :: [])) m m' ∧ r = none) := by
  have f : Fx (RS (ρ0 :: [])) m m := Fx.rf
  refine v_X8_putSkill hb0.1 ?_
  refine ⟨?_, ?_⟩
  · intro c1
    have k2 := y_ltr (n := 0) rfl c1
    exact ⟨w, f, rfl⟩
  · intro c3
    have k4 := y_nltr (n := 0) rfl c3
    refine ⟨?_, ?_⟩
    · intro c5
      have k6 := y_lel (n := 32) rfl c5
      exact ⟨w, f, rfl⟩
    · intro c7
      have k8 := y_nlel (n := 32) rfl c7
      refine ⟨?_, ?_⟩
      · exact vpi (by omega) (by omega)
      · have w9 : WT (uI m (b0 + 1) (((x1 * (4 : Int32)) + x2).toNatClampNeg) x3) := w.s hb0.2 (by decide)
        have f9 : Fx (RS (ρ0 :: [])) m (uI m (b0 + 1) (((x1 * (4 : Int32)) + x2).toNatClampNeg) x3) := f.i (RS_hd hb0.2 (by decide))
        exact ⟨w9, f9, rfl⟩
set_option maxHeartbeats 4000000 in
theorem l_X8_sum {ad : Nat → Nat} {d : Nat} {m0 : Wm} {b0 ρ0 : Nat} (hb0 : SS b0 ρ0) : ∀ n : Nat, (∀ (m : Wm) (x3 x4 x5 : Int32), WT m → Fx (RS []) m0 m → x4.toInt ≤ (32 : Int) → (0 : Int) ≤ x5.toInt → x5.toInt ≤ (32 : Int) → 32 - x5.toInt < (n : Int) → AW ad E0 μX8_sum (d + 1) (fun r m' => WT m' ∧ Fx (RS []) m0 m' ∧ ∃ v : Int32, r = some (.int v)) 26 [(0, .ref (ad b0)), (3, .int x3), (4, .int x4), (5, .int x5)] [] m) := by
  intro n
  induction n with
  | zero =>
    intros
    exfalso
    omega
  | succ n ih =>
    intro m x3 x4 x5 w f j1 j2 j3 hn
    refine g_X8_sum_26 hb0.1 ?_
    refine ⟨?_, ?_⟩
    · intro c1
      have k2 := z_le c1
      exact ⟨w, f, _, rfl⟩
    · intro c3
      have k4 := z_nle c3
      refine ⟨?_, ?_⟩
      · exact vpi (by omega) (by omega)
      · have t5 := ti_addc (x := x5) (y := (1 : Int32)) (c := 1) rfl (by omega)
        exact ih _ _ _ _ w f (by show (x4).toInt ≤ (32 : Int); omega) (by show (0 : Int) ≤ ((x5 + (1 : Int32))).toInt; omega) (by show ((x5 + (1 : Int32))).toInt ≤ (32 : Int); omega) (by show 32 - ((x5 + (1 : Int32))).toInt < _; omega)
set_option maxHeartbeats 4000000 in
theorem s_X8_sum {ad : Nat → Nat} {d : Nat} {m : Wm} {b0 ρ0 : Nat} {x1 x2 : Int32} (w : WT m) (hb0 : SS b0 ρ0) (i1 : (0 : Int) ≤ x1.toInt) (i2 : x1.toInt ≤ (7 : Int)) (i3 : (0 : Int) ≤ x2.toInt) (i4 : x2.toInt ≤ (4 : Int)) : Ct ad μX8_sum (d + 1) [.ref (ad b0), .int x1, .int x2] m (fun r m' => WT m' ∧ Fx (RS []) m m' ∧ ∃ v : Int32, r = some (.int v)) := by
  have f : Fx (RS []) m m := Fx.rf
  refine v_X8_sum hb0.1 ?_
  have t1 := ti_mulr (c := 4) (y := (4 : Int32)) (x := x1) rfl (by omega)
  have t2 := ti_add (x := (x1 * (4 : Int32))) (y := x2) (by omega)
  have t3 := ti_ltv (a := (32 : Int32)) (b := ((x1 * (4 : Int32)) + x2)) (c := (32 : Int32)) (d := ((x1 * (4 : Int32)) + x2)) (A := (32)) (B := ((x1 * (4 : Int32)) + x2).toInt) (C := (32)) (D := ((x1 * (4 : Int32)) + x2).toInt) rfl rfl rfl rfl
  have t4 := ti_ltv (a := x1) (b := (0 : Int32)) (c := (0 : Int32)) (d := x1) (A := x1.toInt) (B := (0)) (C := (0)) (D := x1.toInt) rfl rfl rfl rfl
  have t5 := ti_mulr (c := 4) (y := (4 : Int32)) (x := (if x1 < (0 : Int32) then (0 : Int32) else x1)) rfl (by omega)
  exact (l_X8_sum (m0 := m) hb0 1000000) _ _ _ _ w f (by show ((if (32 : Int32) < ((x1 * (4 : Int32)) + x2) then (32 : Int32) else ((x1 * (4 : Int32)) + x2))).toInt ≤ (32 : Int); omega) (by show (0 : Int) ≤ (((if x1 < (0 : Int32) then (0 : Int32) else x1) * (4 : Int32))).toInt; omega) (by show (((if x1 < (0 : Int32) then (0 : Int32) else x1) * (4 : Int32))).toInt ≤ (32 : Int); omega) (by show 32 - (((if x1 < (0 : Int32) then (0 : Int32) else x1) * (4 : Int32))).toInt < _; omega)
set_option maxHeartbeats 4000000 in
theorem l_X8_greatest {ad : Nat → Nat} {d : Nat} {m0 : Wm} {b0 ρ0 : Nat} (hb0 : SS b0 ρ0) : ∀ n : Nat, (∀ (m : Wm) (x3 x4 x5 : Int32), WT m → Fx (RS []) m0 m → x4.toInt ≤ (32 : Int) → (0 : Int) ≤ x5.toInt → x5.toInt ≤ (32 : Int) → 32 - x5.toInt < (n : Int) → AW ad E0 μX8_greatest (d + 1) (fun r m' => WT m' ∧ Fx (RS []) m0 m' ∧ ∃ v : Int32, r = some (.int v)) 26 [(0, .ref (ad b0)), (3, .int x3), (4, .int x4), (5, .int x5)] [] m) := by
  intro n
  induction n with
  | zero =>
    intros
    exfalso
    omega
  | succ n ih =>
    intro m x3 x4 x5 w f j1 j2 j3 hn
    refine g_X8_greatest_26 hb0.1 ?_
    refine ⟨?_, ?_⟩
    · intro c1
      have k2 := z_le c1
      exact ⟨w, f, _, rfl⟩
    · intro c3
      have k4 := z_nle c3
      refine ⟨?_, ?_⟩
      · exact vpi (by omega) (by omega)
      · have t5 := ti_addc (x := x5) (y := (1 : Int32)) (c := 1) rfl (by omega)
        exact ih _ _ _ _ w f (by show (x4).toInt ≤ (32 : Int); omega) (by show (0 : Int) ≤ ((x5 + (1 : Int32))).toInt; omega) (by show ((x5 + (1 : Int32))).toInt ≤ (32 : Int); omega) (by show 32 - ((x5 + (1 : Int32))).toInt < _; omega)
set_option maxHeartbeats 4000000 in
theorem s_X8_greatest {ad : Nat → Nat} {d : Nat} {m : Wm} {b0 ρ0 : Nat} {x1 x2 : Int32} (w : WT m) (hb0 : SS b0 ρ0) (i1 : (0 : Int) ≤ x1.toInt) (i2 : x1.toInt ≤ (7 : Int)) (i3 : (0 : Int) ≤ x2.toInt) (i4 : x2.toInt ≤ (4 : Int)) : Ct ad μX8_greatest (d + 1) [.ref (ad b0), .int x1, .int x2] m (fun r m' => WT m' ∧ Fx (RS []) m m' ∧ ∃ v : Int32, r = some (.int v)) := by
  have f : Fx (RS []) m m := Fx.rf
  refine v_X8_greatest hb0.1 ?_
  have t1 := ti_mulr (c := 4) (y := (4 : Int32)) (x := x1) rfl (by omega)
  have t2 := ti_add (x := (x1 * (4 : Int32))) (y := x2) (by omega)
  have t3 := ti_ltv (a := (32 : Int32)) (b := ((x1 * (4 : Int32)) + x2)) (c := (32 : Int32)) (d := ((x1 * (4 : Int32)) + x2)) (A := (32)) (B := ((x1 * (4 : Int32)) + x2).toInt) (C := (32)) (D := ((x1 * (4 : Int32)) + x2).toInt) rfl rfl rfl rfl
  have t4 := ti_ltv (a := x1) (b := (0 : Int32)) (c := (0 : Int32)) (d := x1) (A := x1.toInt) (B := (0)) (C := (0)) (D := x1.toInt) rfl rfl rfl rfl
  have t5 := ti_mulr (c := 4) (y := (4 : Int32)) (x := (if x1 < (0 : Int32) then (0 : Int32) else x1)) rfl (by omega)
  exact (l_X8_greatest (m0 := m) hb0 1000000) _ _ _ _ w f (by show ((if (32 : Int32) < ((x1 * (4 : Int32)) + x2) then (32 : Int32) else ((x1 * (4 : Int32)) + x2))).toInt ≤ (32 : Int); omega) (by show (0 : Int) ≤ (((if x1 < (0 : Int32) then (0 : Int32) else x1) * (4 : Int32))).toInt; omega) (by show (((if x1 < (0 : Int32) then (0 : Int32) else x1) * (4 : Int32))).toInt ≤ (32 : Int); omega) (by show 32 - (((if x1 < (0 : Int32) then (0 : Int32) else x1) * (4 : Int32))).toInt < _; omega)
set_option maxHeartbeats 4000000 in
theorem l_X8_least {ad : Nat → Nat} {d : Nat} {m0 : Wm} {b0 ρ0 : Nat} (hb0 : SS b0 ρ0) : ∀ n : Nat, (∀ (m : Wm) (x3 x4 x5 : Int32), WT m → Fx (RS []) m0 m → x4.toInt ≤ (32 : Int) → (0 : Int) ≤ x5.toInt → x5.toInt ≤ (32 : Int) → 32 - x5.toInt < (n : Int) → AW ad E0 μX8_least (d + 1) (fun r m' => WT m' ∧ Fx (RS []) m0 m' ∧ ∃ v : Int32, r = some (.int v)) 27 [(0, .ref (ad b0)), (3, .int x3), (4, .int x4), (5, .int x5)] [] m) := by
  intro n
  induction n with
  | zero =>
    intros
    exfalso
    omega
  | succ n ih =>
    intro m x3 x4 x5 w f j1 j2 j3 hn
    refine g_X8_least_27 hb0.1 ?_
    refine ⟨?_, ?_⟩
    · intro c1
      have k2 := z_le c1
      exact ⟨w, f, _, rfl⟩
    · intro c3
      have k4 := z_nle c3
      refine ⟨?_, ?_⟩
      · exact vpi (by omega) (by omega)
      · have t5 := ti_addc (x := x5) (y := (1 : Int32)) (c := 1) rfl (by omega)
        exact ih _ _ _ _ w f (by show (x4).toInt ≤ (32 : Int); omega) (by show (0 : Int) ≤ ((x5 + (1 : Int32))).toInt; omega) (by show ((x5 + (1 : Int32))).toInt ≤ (32 : Int); omega) (by show 32 - ((x5 + (1 : Int32))).toInt < _; omega)
set_option maxHeartbeats 4000000 in
theorem s_X8_least {ad : Nat → Nat} {d : Nat} {m : Wm} {b0 ρ0 : Nat} {x1 x2 : Int32} (w : WT m) (hb0 : SS b0 ρ0) (i1 : (0 : Int) ≤ x1.toInt) (i2 : x1.toInt ≤ (7 : Int)) (i3 : (0 : Int) ≤ x2.toInt) (i4 : x2.toInt ≤ (4 : Int)) : Ct ad μX8_least (d + 1) [.ref (ad b0), .int x1, .int x2] m (fun r m' => WT m' ∧ Fx (RS []) m m' ∧ ∃ v : Int32, r = some (.int v)) := by
  have f : Fx (RS []) m m := Fx.rf
  refine v_X8_least hb0.1 ?_
  have t1 := ti_mulr (c := 4) (y := (4 : Int32)) (x := x1) rfl (by omega)
  have t2 := ti_add (x := (x1 * (4 : Int32))) (y := x2) (by omega)
  have t3 := ti_ltv (a := (32 : Int32)) (b := ((x1 * (4 : Int32)) + x2)) (c := (32 : Int32)) (d := ((x1 * (4 : Int32)) + x2)) (A := (32)) (B := ((x1 * (4 : Int32)) + x2).toInt) (C := (32)) (D := ((x1 * (4 : Int32)) + x2).toInt) rfl rfl rfl rfl
  have t4 := ti_ltv (a := x1) (b := (0 : Int32)) (c := (0 : Int32)) (d := x1) (A := x1.toInt) (B := (0)) (C := (0)) (D := x1.toInt) rfl rfl rfl rfl
  have t5 := ti_mulr (c := 4) (y := (4 : Int32)) (x := (if x1 < (0 : Int32) then (0 : Int32) else x1)) rfl (by omega)
  exact (l_X8_least (m0 := m) hb0 1000000) _ _ _ _ w f (by show ((if (32 : Int32) < ((x1 * (4 : Int32)) + x2) then (32 : Int32) else ((x1 * (4 : Int32)) + x2))).toInt ≤ (32 : Int); omega) (by show (0 : Int) ≤ (((if x1 < (0 : Int32) then (0 : Int32) else x1) * (4 : Int32))).toInt; omega) (by show (((if x1 < (0 : Int32) then (0 : Int32) else x1) * (4 : Int32))).toInt ≤ (32 : Int); omega) (by show 32 - (((if x1 < (0 : Int32) then (0 : Int32) else x1) * (4 : Int32))).toInt < _; omega)
set_option maxHeartbeats 4000000 in
theorem l_X8_furthestArt {ad : Nat → Nat} {d : Nat} {m0 : Wm} {b0 ρ0 : Nat} (hb0 : SS b0 ρ0) : ∀ n : Nat, (∀ (m : Wm) (x3 x4 x5 x6 x7 x8 : Int32), WT m → Fx (RS []) m0 m → (0 : Int) ≤ x3.toInt → x3.toInt ≤ (4 : Int) → (0 : Int) ≤ x6.toInt → x6.toInt ≤ (28 : Int) → (0 : Int) ≤ x7.toInt → x7.toInt ≤ (28 : Int) → (0 : Int) ≤ x8.toInt → x8.toInt ≤ (4 : Int) → 4 - x8.toInt < (n : Int) → AW ad E0 μX8_furthestArt (d + 1) (fun r m' => WT m' ∧ Fx (RS []) m0 m' ∧ ∃ v : Int32, r = some (.int v)) 27 [(0, .ref (ad b0)), (3, .int x3), (4, .int x4), (5, .int x5), (6, .int x6), (7, .int x7), (8, .int x8)] [] m) := by
  intro n
  induction n with
  | zero =>
    intros
    exfalso
    omega
  | succ n ih =>
    intro m x3 x4 x5 x6 x7 x8 w f j1 j2 j3 j4 j5 j6 j7 j8 hn
    refine g_X8_furthestArt_27 hb0.1 ?_
    refine ⟨?_, ?_⟩
    · intro c1
      have k2 := z_le c1
      exact ⟨w, f, _, rfl⟩
    · intro c3
      have k4 := z_nle c3
      refine ⟨?_, ?_⟩
      · intro c5
        have t6 := ti_add (x := x6) (y := x8) (by omega)
        have k7 := y_lel (n := 32) rfl c5
        exact ⟨w, f, _, rfl⟩
      · intro c8
        have t9 := ti_add (x := x6) (y := x8) (by omega)
        have k10 := y_nlel (n := 32) rfl c8
        refine ⟨?_, ?_⟩
        · intro c11
          have t12 := ti_add (x := x7) (y := x8) (by omega)
          have k13 := y_lel (n := 32) rfl c11
          exact ⟨w, f, _, rfl⟩
        · intro c14
          have t15 := ti_add (x := x7) (y := x8) (by omega)
          have k16 := y_nlel (n := 32) rfl c14
          refine ⟨?_, ?_⟩
          · exact vpi (by omega) (by omega)
          · refine ⟨?_, ?_⟩
            · exact vpi (by omega) (by omega)
            · refine ⟨?_, ?_⟩
              · intro c17
                have k18 := z_le c17
                have t19 := ti_addc (x := x8) (y := (1 : Int32)) (c := 1) rfl (by omega)
                exact ih _ _ _ _ _ _ _ w f (by show (0 : Int) ≤ (x3).toInt; omega) (by show (x3).toInt ≤ (4 : Int); omega) (by show (0 : Int) ≤ (x6).toInt; omega) (by show (x6).toInt ≤ (28 : Int); omega) (by show (0 : Int) ≤ (x7).toInt; omega) (by show (x7).toInt ≤ (28 : Int); omega) (by show (0 : Int) ≤ ((x8 + (1 : Int32))).toInt; omega) (by show ((x8 + (1 : Int32))).toInt ≤ (4 : Int); omega) (by show 4 - ((x8 + (1 : Int32))).toInt < _; omega)
              · intro c20
                have k21 := z_nle c20
                have t22 := ti_addc (x := x8) (y := (1 : Int32)) (c := 1) rfl (by omega)
                exact ih _ _ _ _ _ _ _ w f (by show (0 : Int) ≤ (x3).toInt; omega) (by show (x3).toInt ≤ (4 : Int); omega) (by show (0 : Int) ≤ (x6).toInt; omega) (by show (x6).toInt ≤ (28 : Int); omega) (by show (0 : Int) ≤ (x7).toInt; omega) (by show (x7).toInt ≤ (28 : Int); omega) (by show (0 : Int) ≤ ((x8 + (1 : Int32))).toInt; omega) (by show ((x8 + (1 : Int32))).toInt ≤ (4 : Int); omega) (by show 4 - ((x8 + (1 : Int32))).toInt < _; omega)
set_option maxHeartbeats 4000000 in
theorem s_X8_furthestArt {ad : Nat → Nat} {d : Nat} {m : Wm} {b0 ρ0 : Nat} {x1 x2 x3 : Int32} (w : WT m) (hb0 : SS b0 ρ0) (i1 : (0 : Int) ≤ x1.toInt) (i2 : x1.toInt ≤ (7 : Int)) (i3 : (0 : Int) ≤ x2.toInt) (i4 : x2.toInt ≤ (7 : Int)) (i5 : (0 : Int) ≤ x3.toInt) (i6 : x3.toInt ≤ (4 : Int)) : Ct ad μX8_furthestArt (d + 1) [.ref (ad b0), .int x1, .int x2, .int x3] m (fun r m' => WT m' ∧ Fx (RS []) m m' ∧ ∃ v : Int32, r = some (.int v)) := by
  have f : Fx (RS []) m m := Fx.rf
  refine v_X8_furthestArt hb0.1 ?_
  have t1 := ti_ltv (a := x1) (b := (0 : Int32)) (c := (0 : Int32)) (d := x1) (A := x1.toInt) (B := (0)) (C := (0)) (D := x1.toInt) rfl rfl rfl rfl
  have t2 := ti_mulr (c := 4) (y := (4 : Int32)) (x := (if x1 < (0 : Int32) then (0 : Int32) else x1)) rfl (by omega)
  have t3 := ti_ltv (a := x2) (b := (0 : Int32)) (c := (0 : Int32)) (d := x2) (A := x2.toInt) (B := (0)) (C := (0)) (D := x2.toInt) rfl rfl rfl rfl
  have t4 := ti_mulr (c := 4) (y := (4 : Int32)) (x := (if x2 < (0 : Int32) then (0 : Int32) else x2)) rfl (by omega)
  exact (l_X8_furthestArt (m0 := m) hb0 1000000) _ _ _ _ _ _ _ w f (by show (0 : Int) ≤ (x3).toInt; omega) (by show (x3).toInt ≤ (4 : Int); omega) (by show (0 : Int) ≤ (((if x1 < (0 : Int32) then (0 : Int32) else x1) * (4 : Int32))).toInt; omega) (by show (((if x1 < (0 : Int32) then (0 : Int32) else x1) * (4 : Int32))).toInt ≤ (28 : Int); omega) (by show (0 : Int) ≤ (((if x2 < (0 : Int32) then (0 : Int32) else x2) * (4 : Int32))).toInt; omega) (by show (((if x2 < (0 : Int32) then (0 : Int32) else x2) * (4 : Int32))).toInt ≤ (28 : Int); omega) (by show (0 : Int) ≤ (0 : Int); omega) (by show (0 : Int) ≤ (4 : Int); omega) (by show 4 - (0 : Int) < _; omega)
set_option maxHeartbeats 4000000 in
theorem l_X8_copySkills {ad : Nat → Nat} {d : Nat} {m0 : Wm} {b0 b1 ρ0 ρ1 : Nat} (hb0 : SS b0 ρ0) (hb1 : SS b1 ρ1) : ∀ n : Nat, (∀ (m : Wm) (x2 x3 : Int32), WT m → Fx (RS (ρ0 :: [])) m0 m → (0 : Int) ≤ x3.toInt → x3.toInt ≤ (4 : Int) → 4 - x3.toInt < (n : Int) → AW ad E0 μX8_copySkills (d + 1) (fun r m' => WT m' ∧ Fx (RS (ρ0 :: [])) m0 m' ∧ r = none) 2 [(0, .ref (ad b0)), (1, .ref (ad b1)), (2, .int x2), (3, .int x3)] [] m) := by
  intro n
  induction n with
  | zero =>
    intros
    exfalso
    omega
  | succ n ih =>
    intro m x2 x3 w f j1 j2 hn
    refine g_X8_copySkills_2 hb0.1 hb1.1 ?_
    refine ⟨?_, ?_⟩
    · intro c1
      have k2 := y_lel (n := 4) rfl c1
      exact ⟨w, f, rfl⟩
    · intro c3
      have k4 := y_nlel (n := 4) rfl c3
      refine (s_X8_skillOf w hb1).to ?_
      rintro _ m1 ⟨w_m1, g5, v2, rfl⟩
      have f_m1 : Fx (RS (ρ0 :: [])) m0 m1 := f.tr g5 (RS_tl rfl)
      refine ⟨v2, rfl, ?_⟩
      refine (s_X8_putSkill w_m1 hb0).to ?_
      rintro _ m3 ⟨w_m3, g6, rfl⟩
      have f_m3 : Fx (RS (ρ0 :: [])) m0 m3 := f_m1.tr g6 (RS_cons rfl)
      refine ⟨rfl, ?_⟩
      have t7 := ti_addc (x := x3) (y := (1 : Int32)) (c := 1) rfl (by omega)
      exact ih _ _ _ w_m3 f_m3 (by show (0 : Int) ≤ ((x3 + (1 : Int32))).toInt; omega) (by show ((x3 + (1 : Int32))).toInt ≤ (4 : Int); omega) (by show 4 - ((x3 + (1 : Int32))).toInt < _; omega)
set_option maxHeartbeats 4000000 in
theorem s_X8_copySkills {ad : Nat → Nat} {d : Nat} {m : Wm} {b0 b1 ρ0 ρ1 : Nat} {x2 : Int32} (w : WT m) (hb0 : SS b0 ρ0) (hb1 : SS b1 ρ1) : Ct ad μX8_copySkills (d + 1) [.ref (ad b0), .ref (ad b1), .int x2] m (fun r m' => WT m' ∧ Fx (RS (ρ0 :: [])) m m' ∧ r = none) := by
  have f : Fx (RS (ρ0 :: [])) m m := Fx.rf
  refine v_X8_copySkills hb0.1 hb1.1 ?_
  exact (l_X8_copySkills (m0 := m) hb0 hb1 1000000) _ _ _ w f (by show (0 : Int) ≤ (0 : Int); omega) (by show (0 : Int) ≤ (4 : Int); omega) (by show 4 - (0 : Int) < _; omega)
set_option maxHeartbeats 4000000 in
theorem l_X8_clearSide {ad : Nat → Nat} {d : Nat} {m0 : Wm} {b0 ρ0 : Nat} (hb0 : SS b0 ρ0) : ∀ n : Nat, (∀ (m : Wm) (x1 x2 : Int32), WT m → Fx (RS (ρ0 :: [])) m0 m → (0 : Int) ≤ x1.toInt → x1.toInt ≤ (7 : Int) → (0 : Int) ≤ x2.toInt → x2.toInt ≤ (4 : Int) → 4 - x2.toInt < (n : Int) → AW ad E0 μX8_clearSide (d + 1) (fun r m' => WT m' ∧ Fx (RS (ρ0 :: [])) m0 m' ∧ r = none) 2 [(0, .ref (ad b0)), (1, .int x1), (2, .int x2)] [] m) := by
  intro n
  induction n with
  | zero =>
    intros
    exfalso
    omega
  | succ n ih =>
    intro m x1 x2 w f j1 j2 j3 j4 hn
    refine g_X8_clearSide_2 hb0.1 ?_
    refine ⟨?_, ?_⟩
    · intro c1
      have k2 := y_lel (n := 4) rfl c1
      refine ⟨?_, ?_⟩
      · exact vpi (by omega) (by omega)
      · refine ⟨?_, ?_⟩
        · exact vpi (by omega) (by omega)
        · refine ⟨?_, ?_⟩
          · exact vpi (by omega) (by omega)
          · have w3 : WT (uI m (b0 + 2) x1.toNatClampNeg (0 : Int32)) := w.s hb0.2 (by decide)
            have f3 : Fx (RS (ρ0 :: [])) m0 (uI m (b0 + 2) x1.toNatClampNeg (0 : Int32)) := f.i (RS_hd hb0.2 (by decide))
            have w4 : WT (uI (uI m (b0 + 2) x1.toNatClampNeg (0 : Int32)) (b0 + 3) x1.toNatClampNeg (0 : Int32)) := w3.s hb0.2 (by decide)
            have f4 : Fx (RS (ρ0 :: [])) m0 (uI (uI m (b0 + 2) x1.toNatClampNeg (0 : Int32)) (b0 + 3) x1.toNatClampNeg (0 : Int32)) := f3.i (RS_hd hb0.2 (by decide))
            have w5 : WT (uI (uI (uI m (b0 + 2) x1.toNatClampNeg (0 : Int32)) (b0 + 3) x1.toNatClampNeg (0 : Int32)) (b0 + 4) x1.toNatClampNeg (0 : Int32)) := w4.s hb0.2 (by decide)
            have f5 : Fx (RS (ρ0 :: [])) m0 (uI (uI (uI m (b0 + 2) x1.toNatClampNeg (0 : Int32)) (b0 + 3) x1.toNatClampNeg (0 : Int32)) (b0 + 4) x1.toNatClampNeg (0 : Int32)) := f4.i (RS_hd hb0.2 (by decide))
            exact ⟨w5, f5, rfl⟩
    · intro c6
      have k7 := y_nlel (n := 4) rfl c6
      refine (s_X8_putSkill w hb0).to ?_
      rintro _ m1 ⟨w_m1, g8, rfl⟩
      have f_m1 : Fx (RS (ρ0 :: [])) m0 m1 := f.tr g8 (RS_cons rfl)
      refine ⟨rfl, ?_⟩
      have t9 := ti_addc (x := x2) (y := (1 : Int32)) (c := 1) rfl (by omega)
      exact ih _ _ _ w_m1 f_m1 (by show (0 : Int) ≤ (x1).toInt; omega) (by show (x1).toInt ≤ (7 : Int); omega) (by show (0 : Int) ≤ ((x2 + (1 : Int32))).toInt; omega) (by show ((x2 + (1 : Int32))).toInt ≤ (4 : Int); omega) (by show 4 - ((x2 + (1 : Int32))).toInt < _; omega)
set_option maxHeartbeats 4000000 in
theorem s_X8_clearSide {ad : Nat → Nat} {d : Nat} {m : Wm} {b0 ρ0 : Nat} {x1 : Int32} (w : WT m) (hb0 : SS b0 ρ0) (i1 : (0 : Int) ≤ x1.toInt) (i2 : x1.toInt ≤ (7 : Int)) : Ct ad μX8_clearSide (d + 1) [.ref (ad b0), .int x1] m (fun r m' => WT m' ∧ Fx (RS (ρ0 :: [])) m m' ∧ r = none) := by
  have f : Fx (RS (ρ0 :: [])) m m := Fx.rf
  refine v_X8_clearSide hb0.1 ?_
  exact (l_X8_clearSide (m0 := m) hb0 1000000) _ _ _ w f (by show (0 : Int) ≤ (x1).toInt; omega) (by show (x1).toInt ≤ (7 : Int); omega) (by show (0 : Int) ≤ (0 : Int); omega) (by show (0 : Int) ≤ (4 : Int); omega) (by show 4 - (0 : Int) < _; omega)
set_option maxHeartbeats 4000000 in
theorem s_X11_clamp {ad : Nat → Nat} {d : Nat} {m : Wm} {x0 x1 x2 : Int32} (w : WT m) : Ct ad μX11_clamp d [.int x0, .int x1, .int x2] m (fun r m' => WT m' ∧ Fx (RS []) m m' ∧ ∃ v : Int32, r = some (.int v) ∧ (x2.toInt < x1.toInt ∨ (x1.toInt ≤ v.toInt ∧ v.toInt ≤ x2.toInt))) := by
  have f : Fx (RS []) m m := Fx.rf
  refine v_X11_clamp  ?_
  refine ⟨?_, ?_⟩
  · intro c1
    have k2 := z_le c1
    refine ⟨?_, ?_⟩
    · intro c3
      have k4 := z_le c3
      exact ⟨w, f, _, rfl, (by show x2.toInt < x1.toInt ∨ (x1.toInt ≤ (x0).toInt ∧ (x0).toInt ≤ x2.toInt); omega)⟩
    · intro c5
      have k6 := z_nle c5
      exact ⟨w, f, _, rfl, (by show x2.toInt < x1.toInt ∨ (x1.toInt ≤ (x2).toInt ∧ (x2).toInt ≤ x2.toInt); omega)⟩
  · intro c7
    have k8 := z_nle c7
    exact ⟨w, f, _, rfl, (by show x2.toInt < x1.toInt ∨ (x1.toInt ≤ (x1).toInt ∧ (x1).toInt ≤ x2.toInt); omega)⟩
set_option maxHeartbeats 4000000 in
theorem s_X5_rank {ad : Nat → Nat} {d : Nat} {m : Wm} {x0 : Int32} (w : WT m) : Ct ad μX5_rank d [.int x0] m (fun r m' => WT m' ∧ Fx (RS []) m m' ∧ ∃ v : Int32, r = some (.int v) ∧ (0 : Int) ≤ v.toInt ∧ v.toInt ≤ 4) := by
  have f : Fx (RS []) m m := Fx.rf
  refine v_X5_rank  ?_
  refine ⟨?_, ?_, ?_, ?_, ?_, ?_, ?_, ?_, ?_⟩
  · intro c1
    have k2 := y_eqr (n := 42) rfl c1
    exact ⟨w, f, _, rfl, (by show (0 : Int) ≤ (3 : Int); omega), (by show (3 : Int) ≤ (4 : Int); omega)⟩
  · intro c3
    have k4 := y_eqr (n := 43) rfl c3
    exact ⟨w, f, _, rfl, (by show (0 : Int) ≤ (2 : Int); omega), (by show (2 : Int) ≤ (4 : Int); omega)⟩
  · intro c5
    have k6 := y_eqr (n := 45) rfl c5
    exact ⟨w, f, _, rfl, (by show (0 : Int) ≤ (2 : Int); omega), (by show (2 : Int) ≤ (4 : Int); omega)⟩
  · intro c7
    have k8 := y_eqr (n := 47) rfl c7
    exact ⟨w, f, _, rfl, (by show (0 : Int) ≤ (3 : Int); omega), (by show (3 : Int) ≤ (4 : Int); omega)⟩
  · intro c9
    have k10 := y_eqr (n := 60) rfl c9
    exact ⟨w, f, _, rfl, (by show (0 : Int) ≤ (1 : Int); omega), (by show (1 : Int) ≤ (4 : Int); omega)⟩
  · intro c11
    have k12 := y_eqr (n := 61) rfl c11
    exact ⟨w, f, _, rfl, (by show (0 : Int) ≤ (1 : Int); omega), (by show (1 : Int) ≤ (4 : Int); omega)⟩
  · intro c13
    have k14 := y_eqr (n := 62) rfl c13
    exact ⟨w, f, _, rfl, (by show (0 : Int) ≤ (1 : Int); omega), (by show (1 : Int) ≤ (4 : Int); omega)⟩
  · intro c15
    have k16 := y_eqr (n := 256) rfl c15
    exact ⟨w, f, _, rfl, (by show (0 : Int) ≤ (4 : Int); omega), (by show (4 : Int) ≤ (4 : Int); omega)⟩
  · intro c17
    have k18 := y_ner (n := 42) rfl c17
    intro c19
    have k20 := y_ner (n := 43) rfl c19
    intro c21
    have k22 := y_ner (n := 45) rfl c21
    intro c23
    have k24 := y_ner (n := 47) rfl c23
    intro c25
    have k26 := y_ner (n := 60) rfl c25
    intro c27
    have k28 := y_ner (n := 61) rfl c27
    intro c29
    have k30 := y_ner (n := 62) rfl c29
    intro c31
    have k32 := y_ner (n := 256) rfl c31
    exact ⟨w, f, _, rfl, (by show (0 : Int) ≤ (0 : Int); omega), (by show (0 : Int) ≤ (4 : Int); omega)⟩
set_option maxHeartbeats 4000000 in
theorem l_X5_isThing {ad : Nat → Nat} {d : Nat} {m0 : Wm}  : ∀ n : Nat, (∀ (m : Wm) (x0 : Int32), WT m → Fx (RS []) m0 m → 0 * x0.toInt < (n : Int) → AW ad E0 μX5_isThing d (fun r m' => WT m' ∧ Fx (RS []) m0 m' ∧ ∃ v : Int32, r = some (.int v) ∧ (0 : Int) ≤ v.toInt ∧ v.toInt ≤ 1) 12 [(0, .int x0)] [] m) := by
  intro n
  induction n with
  | zero =>
    intros
    exfalso
    omega
  | succ n ih =>
    intro m x0 w f  hn
    refine g_X5_isThing_12  ?_
    refine ⟨?_, ?_⟩
    · intro c1
      have k2 := y_eqr (n := 115) rfl c1
      exact ⟨w, f, _, rfl, (by show (0 : Int) ≤ (1 : Int); omega), (by show (1 : Int) ≤ (1 : Int); omega)⟩
    · intro c3
      have k4 := y_ner (n := 115) rfl c3
      refine ⟨?_, ?_⟩
      · intro c5
        have k6 := y_eqr (n := 109) rfl c5
        exact ⟨w, f, _, rfl, (by show (0 : Int) ≤ (1 : Int); omega), (by show (1 : Int) ≤ (1 : Int); omega)⟩
      · intro c7
        have k8 := y_ner (n := 109) rfl c7
        refine ⟨?_, ?_⟩
        · intro c9
          have k10 := y_eqr (n := 108) rfl c9
          exact ⟨w, f, _, rfl, (by show (0 : Int) ≤ (1 : Int); omega), (by show (1 : Int) ≤ (1 : Int); omega)⟩
        · intro c11
          have k12 := y_ner (n := 108) rfl c11
          refine ⟨?_, ?_⟩
          · intro c13
            have k14 := y_eqr (n := 105) rfl c13
            exact ⟨w, f, _, rfl, (by show (0 : Int) ≤ (1 : Int); omega), (by show (1 : Int) ≤ (1 : Int); omega)⟩
          · intro c15
            have k16 := y_ner (n := 105) rfl c15
            refine ⟨?_, ?_⟩
            · intro c17
              have k18 := y_eqr (n := 112) rfl c17
              exact ⟨w, f, _, rfl, (by show (0 : Int) ≤ (1 : Int); omega), (by show (1 : Int) ≤ (1 : Int); omega)⟩
            · intro c19
              have k20 := y_ner (n := 112) rfl c19
              refine ⟨?_, ?_⟩
              · intro c21
                have k22 := y_ner (n := 114) rfl c21
                exact ⟨w, f, _, rfl, (by show (0 : Int) ≤ (0 : Int); omega), (by show (0 : Int) ≤ (1 : Int); omega)⟩
              · intro c23
                have k24 := y_eqr (n := 114) rfl c23
                exact ⟨w, f, _, rfl, (by show (0 : Int) ≤ (1 : Int); omega), (by show (1 : Int) ≤ (1 : Int); omega)⟩
set_option maxHeartbeats 4000000 in
theorem s_X5_isThing {ad : Nat → Nat} {d : Nat} {m : Wm} {x0 : Int32} (w : WT m) : Ct ad μX5_isThing d [.int x0] m (fun r m' => WT m' ∧ Fx (RS []) m m' ∧ ∃ v : Int32, r = some (.int v) ∧ (0 : Int) ≤ v.toInt ∧ v.toInt ≤ 1) := by
  have f : Fx (RS []) m m := Fx.rf
  refine v_X5_isThing  ?_
  refine ⟨?_, ?_⟩
  · intro c1
    have k2 := y_ltr (n := 97) rfl c1
    exact (l_X5_isThing (m0 := m) 1000000) _ _ w f (by show 0 * (x0).toInt < _; omega)
  · intro c3
    have k4 := y_nltr (n := 97) rfl c3
    refine ⟨?_, ?_⟩
    · intro c5
      have k6 := y_ler (n := 100) rfl c5
      exact ⟨w, f, _, rfl, (by show (0 : Int) ≤ (1 : Int); omega), (by show (1 : Int) ≤ (1 : Int); omega)⟩
    · intro c7
      have k8 := y_nler (n := 100) rfl c7
      exact (l_X5_isThing (m0 := m) 1000000) _ _ w f (by show 0 * (x0).toInt < _; omega)
set_option maxHeartbeats 4000000 in
theorem s_X5_joined {ad : Nat → Nat} {d : Nat} {m : Wm} {x0 x1 x2 : Int32} (w : WT m) : Ct ad μX5_joined d [.int x0, .int x1, .int x2] m (fun r m' => WT m' ∧ Fx (RS []) m m' ∧ ∃ v : Int32, r = some (.int v)) := by
  have f : Fx (RS []) m m := Fx.rf
  refine v_X5_joined  ?_
  refine ⟨?_, ?_, ?_, ?_, ?_, ?_, ?_⟩
  · intro c1
    have k2 := y_eqr (n := 42) rfl c1
    exact ⟨w, f, _, rfl⟩
  · intro c3
    have k4 := y_eqr (n := 43) rfl c3
    exact ⟨w, f, _, rfl⟩
  · intro c5
    have k6 := y_eqr (n := 45) rfl c5
    exact ⟨w, f, _, rfl⟩
  · intro c7
    have k8 := y_eqr (n := 60) rfl c7
    refine ⟨?_, ?_⟩
    · intro c9
      have k10 := z_le c9
      exact ⟨w, f, _, rfl⟩
    · intro c11
      have k12 := z_nle c11
      exact ⟨w, f, _, rfl⟩
  · intro c13
    have k14 := y_eqr (n := 61) rfl c13
    refine ⟨?_, ?_⟩
    · intro c15
      have k16 := z_ne c15
      exact ⟨w, f, _, rfl⟩
    · intro c17
      have k18 := z_eq c17
      exact ⟨w, f, _, rfl⟩
  · intro c19
    have k20 := y_eqr (n := 62) rfl c19
    refine ⟨?_, ?_⟩
    · intro c21
      have k22 := z_le c21
      exact ⟨w, f, _, rfl⟩
    · intro c23
      have k24 := z_nle c23
      exact ⟨w, f, _, rfl⟩
  · intro c25
    have k26 := y_ner (n := 42) rfl c25
    intro c27
    have k28 := y_ner (n := 43) rfl c27
    intro c29
    have k30 := y_ner (n := 45) rfl c29
    intro c31
    have k32 := y_ner (n := 60) rfl c31
    intro c33
    have k34 := y_ner (n := 61) rfl c33
    intro c35
    have k36 := y_ner (n := 62) rfl c35
    refine ⟨?_, ?_⟩
    · intro c37
      have k38 := y_ner (n := 0) rfl c37
      refine ⟨?_, ?_⟩
      · first | assumption | (show ¬ x2 = (0 : Int32); exact y_nn (n := 0) rfl (by omega))
      · exact ⟨w, f, _, rfl⟩
    · intro c39
      have k40 := y_eqr (n := 0) rfl c39
      exact ⟨w, f, _, rfl⟩
set_option maxHeartbeats 4000000 in
theorem s_X5_thing {ad : Nat → Nat} {d : Nat} {m : Wm} {b1 ρ1 : Nat} {x0 x2 x3 : Int32} (w : WT m) (hb1 : SS b1 ρ1) (i1 : (0 : Int) ≤ x2.toInt) (i2 : x2.toInt ≤ (7 : Int)) (i3 : (0 : Int) ≤ x3.toInt) (i4 : x3.toInt ≤ (4 : Int)) : Ct ad μX5_thing (d + 2) [.int x0, .ref (ad b1), .int x2, .int x3] m (fun r m' => WT m' ∧ Fx (RS []) m m' ∧ ∃ v : Int32, r = some (.int v)) := by
  have f : Fx (RS []) m m := Fx.rf
  refine v_X5_thing hb1.1 ?_
  refine ⟨?_, ?_, ?_, ?_, ?_, ?_, ?_⟩
  · intro c1
    have k2 := y_eqr (n := 105) rfl c1
    exact ⟨w, f, _, rfl⟩
  · intro c3
    have k4 := y_eqr (n := 108) rfl c3
    refine (s_X8_least w hb1 (by show (0 : Int) ≤ (x2).toInt; omega) (by show (x2).toInt ≤ (7 : Int); omega) (by show (0 : Int) ≤ (x3).toInt; omega) (by show (x3).toInt ≤ (4 : Int); omega)).to ?_
    rintro _ m3 ⟨w_m3, g5, v4, rfl⟩
    have f_m3 : Fx (RS []) m m3 := f.tr g5 (RS_sub rfl)
    refine ⟨v4, rfl, ?_⟩
    exact ⟨w_m3, f_m3, _, rfl⟩
  · intro c6
    have k7 := y_eqr (n := 109) rfl c6
    refine (s_X8_greatest w hb1 (by show (0 : Int) ≤ (x2).toInt; omega) (by show (x2).toInt ≤ (7 : Int); omega) (by show (0 : Int) ≤ (x3).toInt; omega) (by show (x3).toInt ≤ (4 : Int); omega)).to ?_
    rintro _ m5 ⟨w_m5, g8, v6, rfl⟩
    have f_m5 : Fx (RS []) m m5 := f.tr g8 (RS_sub rfl)
    refine ⟨v6, rfl, ?_⟩
    exact ⟨w_m5, f_m5, _, rfl⟩
  · intro c9
    have k10 := y_eqr (n := 112) rfl c9
    refine ⟨?_, ?_⟩
    · exact vpi (by omega) (by omega)
    · exact ⟨w, f, _, rfl⟩
  · intro c11
    have k12 := y_eqr (n := 114) rfl c11
    refine ⟨?_, ?_⟩
    · exact vpi (by omega) (by omega)
    · exact ⟨w, f, _, rfl⟩
  · intro c13
    have k14 := y_eqr (n := 115) rfl c13
    refine (s_X8_sum w hb1 (by show (0 : Int) ≤ (x2).toInt; omega) (by show (x2).toInt ≤ (7 : Int); omega) (by show (0 : Int) ≤ (x3).toInt; omega) (by show (x3).toInt ≤ (4 : Int); omega)).to ?_
    rintro _ m7 ⟨w_m7, g15, v8, rfl⟩
    have f_m7 : Fx (RS []) m m7 := f.tr g15 (RS_sub rfl)
    refine ⟨v8, rfl, ?_⟩
    exact ⟨w_m7, f_m7, _, rfl⟩
  · intro c16
    have k17 := y_ner (n := 105) rfl c16
    intro c18
    have k19 := y_ner (n := 108) rfl c18
    intro c20
    have k21 := y_ner (n := 109) rfl c20
    intro c22
    have k23 := y_ner (n := 112) rfl c22
    intro c24
    have k25 := y_ner (n := 114) rfl c24
    intro c26
    have k27 := y_ner (n := 115) rfl c26
    refine ⟨?_, ?_⟩
    · intro c28
      have k29 := z_le c28
      exact ⟨w, f, _, rfl⟩
    · intro c30
      have k31 := z_nle c30
      refine (s_X8_skillOf w hb1).to ?_
      rintro _ m1 ⟨w_m1, g32, v2, rfl⟩
      have f_m1 : Fx (RS []) m m1 := f.tr g32 (RS_sub rfl)
      refine ⟨v2, rfl, ?_⟩
      exact ⟨w_m1, f_m1, _, rfl⟩
set_option maxHeartbeats 4000000 in
theorem l_X5_value_5 {ad : Nat → Nat} {d : Nat} {m0 : Wm} {b1 ρ1 : Nat} (hb1 : SS b1 ρ1) : ∀ n : Nat, (∀ (m : Wm) (x2 x3 x4 x5 : Int32), WT m → Fx (RS [14]) m0 m → (0 : Int) ≤ x4.toInt → x4.toInt ≤ (40 : Int) → (0 : Int) ≤ x2.toInt → x2.toInt ≤ (7 : Int) → (0 : Int) ≤ x3.toInt → x3.toInt ≤ (4 : Int) → (0 : Int) ≤ x5.toInt → x5.toInt ≤ (40 : Int) → (40 - x5.toInt) * 4 + 3 < (n : Int) → AW ad E0 μX5_value (d + 3) (fun r m' => WT m' ∧ Fx (RS [14]) m0 m' ∧ ∃ v : Int32, r = some (.int v)) 20 [(0, .ref (ad 5)), (1, .ref (ad b1)), (2, .int x2), (3, .int x3), (4, .int x4), (5, .int x5)] [] m) ∧ (∀ (m : Wm) (x2 x3 x4 x5 x6 s0 : Int32), WT m → Fx (RS [14]) m0 m → (0 : Int) ≤ x4.toInt → x4.toInt ≤ (40 : Int) → (0 : Int) ≤ x2.toInt → x2.toInt ≤ (7 : Int) → (0 : Int) ≤ x3.toInt → x3.toInt ≤ (4 : Int) → (0 : Int) ≤ x5.toInt → x5.toInt ≤ (39 : Int) → (40 - x5.toInt) * 4 + 2 < (n : Int) → AW ad E0 μX5_value (d + 3) (fun r m' => WT m' ∧ Fx (RS [14]) m0 m' ∧ ∃ v : Int32, r = some (.int v)) 59 [(0, .ref (ad 5)), (1, .ref (ad b1)), (2, .int x2), (3, .int x3), (4, .int x4), (5, .int x5), (6, .int x6)] [.int s0] m) ∧ (∀ (m : Wm) (x2 x3 x4 x5 x6 x7 : Int32), WT m → Fx (RS [14]) m0 m → (0 : Int) ≤ x4.toInt → x4.toInt ≤ (40 : Int) → (0 : Int) ≤ x2.toInt → x2.toInt ≤ (7 : Int) → (0 : Int) ≤ x3.toInt → x3.toInt ≤ (4 : Int) → (0 : Int) ≤ x5.toInt → x5.toInt ≤ (39 : Int) → (40 - x5.toInt) * 4 + 1 < (n : Int) → AW ad E0 μX5_value (d + 3) (fun r m' => WT m' ∧ Fx (RS [14]) m0 m' ∧ ∃ v : Int32, r = some (.int v)) 111 [(0, .ref (ad 5)), (1, .ref (ad b1)), (2, .int x2), (3, .int x3), (4, .int x4), (5, .int x5), (6, .int x6), (7, .int x7)] [] m) ∧ (∀ (m : Wm) (x2 x3 x4 x5 x6 : Int32), WT m → Fx (RS [14]) m0 m → (0 : Int) ≤ x4.toInt → x4.toInt ≤ (40 : Int) → (0 : Int) ≤ x2.toInt → x2.toInt ≤ (7 : Int) → (0 : Int) ≤ x3.toInt → x3.toInt ≤ (4 : Int) → (0 : Int) ≤ x5.toInt → x5.toInt ≤ (39 : Int) → (40 - x5.toInt) * 4 < (n : Int) → AW ad E0 μX5_value (d + 3) (fun r m' => WT m' ∧ Fx (RS [14]) m0 m' ∧ ∃ v : Int32, r = some (.int v)) 144 [(0, .ref (ad 5)), (1, .ref (ad b1)), (2, .int x2), (3, .int x3), (4, .int x4), (5, .int x5), (6, .int x6)] [] m) := by
  intro n
  induction n with
  | zero =>
    refine ⟨?_, ?_, ?_, ?_⟩ <;> intros <;> exfalso <;> omega
  | succ n ih =>
    refine ⟨?_, ?_, ?_, ?_⟩
    · intro m x2 x3 x4 x5 w f j1 j2 j3 j4 j5 j6 j7 j8 hn
      refine g_X5_value_20 Ru_5 hb1.1 ?_
      refine ⟨?_, ?_⟩
      · intro c1
        have r2 := w.at (a := 5) (k := 4) rfl
        have k3 := z_le c1
        refine (s_X11_clamp w).to ?_
        rintro _ m1 ⟨w_m1, g4, v2, rfl, p5⟩
        have f_m1 : Fx (RS [14]) m0 m1 := f.tr g4 (RS_sub rfl)
        have p6 : (9999 : Int) < (-9999 : Int) ∨ ((-9999 : Int) ≤ v2.toInt ∧ v2.toInt ≤ (9999 : Int)) := p5
        clear p5
        refine ⟨v2, rfl, ?_⟩
        exact ⟨w_m1, f_m1, _, rfl⟩
      · intro c7
        have r8 := w.at (a := 5) (k := 4) rfl
        have k9 := z_nle c7
        refine ⟨?_, ?_⟩
        · exact vpi (by omega) (by omega)
        · refine ⟨?_, ?_⟩
          · intro c10
            have k11 := y_lel (n := 1000) rfl c10
            refine (s_X5_rank w).to ?_
            rintro _ m3 ⟨w_m3, g12, v4, rfl, p13, p14⟩
            have f_m3 : Fx (RS [14]) m0 m3 := f.tr g12 (RS_sub rfl)
            refine ⟨v4, rfl, ?_⟩
            exact ih.2.1 _ _ _ _ _ _ _ w_m3 f_m3 (by show (0 : Int) ≤ (x4).toInt; omega) (by show (x4).toInt ≤ (40 : Int); omega) (by show (0 : Int) ≤ (x2).toInt; omega) (by show (x2).toInt ≤ (7 : Int); omega) (by show (0 : Int) ≤ (x3).toInt; omega) (by show (x3).toInt ≤ (4 : Int); omega) (by show (0 : Int) ≤ (x5).toInt; omega) (by show (x5).toInt ≤ (39 : Int); omega) (by show (40 - (x5).toInt) * 4 + 2 < _; omega)
          · intro c15
            have k16 := y_nlel (n := 1000) rfl c15
            exact ih.2.1 _ _ _ _ _ _ _ w f (by show (0 : Int) ≤ (x4).toInt; omega) (by show (x4).toInt ≤ (40 : Int); omega) (by show (0 : Int) ≤ (x2).toInt; omega) (by show (x2).toInt ≤ (7 : Int); omega) (by show (0 : Int) ≤ (x3).toInt; omega) (by show (x3).toInt ≤ (4 : Int); omega) (by show (0 : Int) ≤ (x5).toInt; omega) (by show (x5).toInt ≤ (39 : Int); omega) (by show (40 - (x5).toInt) * 4 + 2 < _; omega)
    · intro m x2 x3 x4 x5 x6 s0 w f j1 j2 j3 j4 j5 j6 j7 j8 hn
      refine g_X5_value_59 Ru_5 hb1.1 ?_
      refine ⟨?_, ?_⟩
      · intro c1
        have k2 := y_ner (n := 0) rfl c1
        exact ih.2.2.1 _ _ _ _ _ _ _ w f (by show (0 : Int) ≤ (x4).toInt; omega) (by show (x4).toInt ≤ (40 : Int); omega) (by show (0 : Int) ≤ (x2).toInt; omega) (by show (x2).toInt ≤ (7 : Int); omega) (by show (0 : Int) ≤ (x3).toInt; omega) (by show (x3).toInt ≤ (4 : Int); omega) (by show (0 : Int) ≤ (x5).toInt; omega) (by show (x5).toInt ≤ (39 : Int); omega) (by show (40 - (x5).toInt) * 4 + 1 < _; omega)
      · intro c3
        have k4 := y_eqr (n := 0) rfl c3
        refine ⟨?_, ?_⟩
        · intro c5
          have k6 := y_lel (n := 40) rfl c5
          exact ih.2.2.1 _ _ _ _ _ _ _ w f (by show (0 : Int) ≤ (x4).toInt; omega) (by show (x4).toInt ≤ (40 : Int); omega) (by show (0 : Int) ≤ (x2).toInt; omega) (by show (x2).toInt ≤ (7 : Int); omega) (by show (0 : Int) ≤ (x3).toInt; omega) (by show (x3).toInt ≤ (4 : Int); omega) (by show (0 : Int) ≤ (x5).toInt; omega) (by show (x5).toInt ≤ (39 : Int); omega) (by show (40 - (x5).toInt) * 4 + 1 < _; omega)
        · intro c7
          have k8 := y_nlel (n := 40) rfl c7
          refine ⟨?_, ?_⟩
          · intro c9
            have k10 := y_lel (n := 1000) rfl c9
            refine (s_X5_thing w hb1 (by show (0 : Int) ≤ (x2).toInt; omega) (by show (x2).toInt ≤ (7 : Int); omega) (by show (0 : Int) ≤ (x3).toInt; omega) (by show (x3).toInt ≤ (4 : Int); omega)).to ?_
            rintro _ m1 ⟨w_m1, g11, v2, rfl⟩
            have f_m1 : Fx (RS [14]) m0 m1 := f.tr g11 (RS_sub rfl)
            refine ⟨v2, rfl, ?_⟩
            refine ⟨?_, ?_⟩
            · exact vpi (by omega) (by omega)
            · have w12 : WT (uI m1 (5 + 2) x4.toNatClampNeg v2) := w_m1.n rfl
              have f12 : Fx (RS [14]) m0 (uI m1 (5 + 2) x4.toNatClampNeg v2) := f_m1.i rfl
              have t13 := ti_addc (x := x4) (y := (1 : Int32)) (c := 1) rfl (by omega)
              have t14 := ti_addc (x := x5) (y := (1 : Int32)) (c := 1) rfl (by omega)
              exact ih.1 _ _ _ _ _ w12 f12 (by show (0 : Int) ≤ ((x4 + (1 : Int32))).toInt; omega) (by show ((x4 + (1 : Int32))).toInt ≤ (40 : Int); omega) (by show (0 : Int) ≤ (x2).toInt; omega) (by show (x2).toInt ≤ (7 : Int); omega) (by show (0 : Int) ≤ (x3).toInt; omega) (by show (x3).toInt ≤ (4 : Int); omega) (by show (0 : Int) ≤ ((x5 + (1 : Int32))).toInt; omega) (by show ((x5 + (1 : Int32))).toInt ≤ (40 : Int); omega) (by show (40 - ((x5 + (1 : Int32))).toInt) * 4 + 3 < _; omega)
          · intro c15
            have k16 := y_nlel (n := 1000) rfl c15
            refine ⟨?_, ?_⟩
            · exact vpi (by omega) (by omega)
            · have w17 : WT (uI m (5 + 2) x4.toNatClampNeg x6) := w.n rfl
              have f17 : Fx (RS [14]) m0 (uI m (5 + 2) x4.toNatClampNeg x6) := f.i rfl
              have t18 := ti_addc (x := x4) (y := (1 : Int32)) (c := 1) rfl (by omega)
              have t19 := ti_addc (x := x5) (y := (1 : Int32)) (c := 1) rfl (by omega)
              exact ih.1 _ _ _ _ _ w17 f17 (by show (0 : Int) ≤ ((x4 + (1 : Int32))).toInt; omega) (by show ((x4 + (1 : Int32))).toInt ≤ (40 : Int); omega) (by show (0 : Int) ≤ (x2).toInt; omega) (by show (x2).toInt ≤ (7 : Int); omega) (by show (0 : Int) ≤ (x3).toInt; omega) (by show (x3).toInt ≤ (4 : Int); omega) (by show (0 : Int) ≤ ((x5 + (1 : Int32))).toInt; omega) (by show ((x5 + (1 : Int32))).toInt ≤ (40 : Int); omega) (by show (40 - ((x5 + (1 : Int32))).toInt) * 4 + 3 < _; omega)
    · intro m x2 x3 x4 x5 x6 x7 w f j1 j2 j3 j4 j5 j6 j7 j8 hn
      refine g_X5_value_111 Ru_5 hb1.1 ?_
      refine ⟨?_, ?_⟩
      · intro c1
        have k2 := y_ner (n := 4) rfl c1
        exact ih.2.2.2 _ _ _ _ _ _ w f (by show (0 : Int) ≤ (x4).toInt; omega) (by show (x4).toInt ≤ (40 : Int); omega) (by show (0 : Int) ≤ (x2).toInt; omega) (by show (x2).toInt ≤ (7 : Int); omega) (by show (0 : Int) ≤ (x3).toInt; omega) (by show (x3).toInt ≤ (4 : Int); omega) (by show (0 : Int) ≤ (x5).toInt; omega) (by show (x5).toInt ≤ (39 : Int); omega) (by show (40 - (x5).toInt) * 4 < _; omega)
      · intro c3
        have k4 := y_eqr (n := 4) rfl c3
        refine ⟨?_, ?_⟩
        · intro c5
          have k6 := y_ler (n := 0) rfl c5
          exact ih.2.2.2 _ _ _ _ _ _ w f (by show (0 : Int) ≤ (x4).toInt; omega) (by show (x4).toInt ≤ (40 : Int); omega) (by show (0 : Int) ≤ (x2).toInt; omega) (by show (x2).toInt ≤ (7 : Int); omega) (by show (0 : Int) ≤ (x3).toInt; omega) (by show (x3).toInt ≤ (4 : Int); omega) (by show (0 : Int) ≤ (x5).toInt; omega) (by show (x5).toInt ≤ (39 : Int); omega) (by show (40 - (x5).toInt) * 4 < _; omega)
        · intro c7
          have k8 := y_nler (n := 0) rfl c7
          refine ⟨?_, ?_⟩
          · have t9 := ti_subc (x := x4) (y := (1 : Int32)) (c := 1) rfl (by omega)
            exact vpi (by omega) (by omega)
          · refine ⟨?_, ?_⟩
            · have t10 := ti_subc (x := x4) (y := (1 : Int32)) (c := 1) rfl (by omega)
              exact vpi (by omega) (by omega)
            · have w11 : WT (uI m (5 + 2) ((x4 - (1 : Int32)).toNatClampNeg) (-(m.1 (5 + 2) ((x4 - (1 : Int32)).toNatClampNeg)))) := w.n rfl
              have f11 : Fx (RS [14]) m0 (uI m (5 + 2) ((x4 - (1 : Int32)).toNatClampNeg) (-(m.1 (5 + 2) ((x4 - (1 : Int32)).toNatClampNeg)))) := f.i rfl
              have t12 := ti_addc (x := x5) (y := (1 : Int32)) (c := 1) rfl (by omega)
              exact ih.1 _ _ _ _ _ w11 f11 (by show (0 : Int) ≤ (x4).toInt; omega) (by show (x4).toInt ≤ (40 : Int); omega) (by show (0 : Int) ≤ (x2).toInt; omega) (by show (x2).toInt ≤ (7 : Int); omega) (by show (0 : Int) ≤ (x3).toInt; omega) (by show (x3).toInt ≤ (4 : Int); omega) (by show (0 : Int) ≤ ((x5 + (1 : Int32))).toInt; omega) (by show ((x5 + (1 : Int32))).toInt ≤ (40 : Int); omega) (by show (40 - ((x5 + (1 : Int32))).toInt) * 4 + 3 < _; omega)
    · intro m x2 x3 x4 x5 x6 w f j1 j2 j3 j4 j5 j6 j7 j8 hn
      refine g_X5_value_144 Ru_5 hb1.1 ?_
      refine ⟨?_, ?_⟩
      · intro c1
        have k2 := y_ler (n := 1) rfl c1
        have t3 := ti_addc (x := x5) (y := (1 : Int32)) (c := 1) rfl (by omega)
        exact ih.1 _ _ _ _ _ w f (by show (0 : Int) ≤ (x4).toInt; omega) (by show (x4).toInt ≤ (40 : Int); omega) (by show (0 : Int) ≤ (x2).toInt; omega) (by show (x2).toInt ≤ (7 : Int); omega) (by show (0 : Int) ≤ (x3).toInt; omega) (by show (x3).toInt ≤ (4 : Int); omega) (by show (0 : Int) ≤ ((x5 + (1 : Int32))).toInt; omega) (by show ((x5 + (1 : Int32))).toInt ≤ (40 : Int); omega) (by show (40 - ((x5 + (1 : Int32))).toInt) * 4 + 3 < _; omega)
      · intro c4
        have k5 := y_nler (n := 1) rfl c4
        refine ⟨?_, ?_⟩
        · have t6 := ti_addc (x := x4) (y := (-1 : Int32)) (c := -1) rfl (by omega)
          have t7 := ti_subc (x := (x4 + (-1 : Int32))) (y := (1 : Int32)) (c := 1) rfl (by omega)
          exact vpi (by omega) (by omega)
        · refine ⟨?_, ?_⟩
          · have t8 := ti_addc (x := x4) (y := (-1 : Int32)) (c := -1) rfl (by omega)
            exact vpi (by omega) (by omega)
          · refine (s_X5_joined w).to ?_
            rintro _ m1 ⟨w_m1, g9, v2, rfl⟩
            have f_m1 : Fx (RS [14]) m0 m1 := f.tr g9 (RS_sub rfl)
            refine ⟨v2, rfl, ?_⟩
            refine ⟨?_, ?_⟩
            · have t10 := ti_addc (x := x4) (y := (-1 : Int32)) (c := -1) rfl (by omega)
              have t11 := ti_subc (x := (x4 + (-1 : Int32))) (y := (1 : Int32)) (c := 1) rfl (by omega)
              exact vpi (by omega) (by omega)
            · have w12 : WT (uI m1 (5 + 2) (((x4 + (-1 : Int32)) - (1 : Int32)).toNatClampNeg) v2) := w_m1.n rfl
              have f12 : Fx (RS [14]) m0 (uI m1 (5 + 2) (((x4 + (-1 : Int32)) - (1 : Int32)).toNatClampNeg) v2) := f_m1.i rfl
              have t13 := ti_addc (x := x4) (y := (-1 : Int32)) (c := -1) rfl (by omega)
              have t14 := ti_addc (x := x5) (y := (1 : Int32)) (c := 1) rfl (by omega)
              exact ih.1 _ _ _ _ _ w12 f12 (by show (0 : Int) ≤ ((x4 + (-1 : Int32))).toInt; omega) (by show ((x4 + (-1 : Int32))).toInt ≤ (40 : Int); omega) (by show (0 : Int) ≤ (x2).toInt; omega) (by show (x2).toInt ≤ (7 : Int); omega) (by show (0 : Int) ≤ (x3).toInt; omega) (by show (x3).toInt ≤ (4 : Int); omega) (by show (0 : Int) ≤ ((x5 + (1 : Int32))).toInt; omega) (by show ((x5 + (1 : Int32))).toInt ≤ (40 : Int); omega) (by show (40 - ((x5 + (1 : Int32))).toInt) * 4 + 3 < _; omega)
set_option maxHeartbeats 4000000 in
theorem s_X5_value_5 {ad : Nat → Nat} {d : Nat} {m : Wm} {b1 ρ1 : Nat} {x2 x3 : Int32} (w : WT m) (hb1 : SS b1 ρ1) (i1 : (0 : Int) ≤ x2.toInt) (i2 : x2.toInt ≤ (7 : Int)) (i3 : (0 : Int) ≤ x3.toInt) (i4 : x3.toInt ≤ (4 : Int)) : Ct ad μX5_value (d + 3) [.ref (ad 5), .ref (ad b1), .int x2, .int x3] m (fun r m' => WT m' ∧ Fx (RS [14]) m m' ∧ ∃ v : Int32, r = some (.int v)) := by
  have f : Fx (RS [14]) m m := Fx.rf
  refine v_X5_value Ru_5 hb1.1 ?_
  refine ⟨?_, ?_⟩
  · intro c1
    have r2 := w.at (a := 5) (k := 4) rfl
    have k3 := y_ner (n := 0) rfl c1
    exact (l_X5_value_5 (m0 := m) hb1 1000000).1 _ _ _ _ _ w f (by show (0 : Int) ≤ (0 : Int); omega) (by show (0 : Int) ≤ (40 : Int); omega) (by show (0 : Int) ≤ (x2).toInt; omega) (by show (x2).toInt ≤ (7 : Int); omega) (by show (0 : Int) ≤ (x3).toInt; omega) (by show (x3).toInt ≤ (4 : Int); omega) (by show (0 : Int) ≤ (0 : Int); omega) (by show (0 : Int) ≤ (40 : Int); omega) (by show (40 - (0 : Int)) * 4 + 3 < _; omega)
  · intro c4
    have r5 := w.at (a := 5) (k := 4) rfl
    have k6 := y_eqr (n := 0) rfl c4
    refine (s_X8_sum w hb1 (by show (0 : Int) ≤ (x2).toInt; omega) (by show (x2).toInt ≤ (7 : Int); omega) (by show (0 : Int) ≤ (x3).toInt; omega) (by show (x3).toInt ≤ (4 : Int); omega)).to ?_
    rintro _ m1 ⟨w_m1, g7, v2, rfl⟩
    have f_m1 : Fx (RS [14]) m m1 := f.tr g7 (RS_sub rfl)
    refine ⟨v2, rfl, ?_⟩
    exact ⟨w_m1, f_m1, _, rfl⟩
set_option maxHeartbeats 4000000 in
theorem l_X5_value_10 {ad : Nat → Nat} {d : Nat} {m0 : Wm} {b1 ρ1 : Nat} (hb1 : SS b1 ρ1) : ∀ n : Nat, (∀ (m : Wm) (x2 x3 x4 x5 : Int32), WT m → Fx (RS [14]) m0 m → (0 : Int) ≤ x4.toInt → x4.toInt ≤ (40 : Int) → (0 : Int) ≤ x2.toInt → x2.toInt ≤ (7 : Int) → (0 : Int) ≤ x3.toInt → x3.toInt ≤ (4 : Int) → (0 : Int) ≤ x5.toInt → x5.toInt ≤ (40 : Int) → (40 - x5.toInt) * 4 + 3 < (n : Int) → AW ad E0 μX5_value (d + 3) (fun r m' => WT m' ∧ Fx (RS [14]) m0 m' ∧ ∃ v : Int32, r = some (.int v)) 20 [(0, .ref (ad 10)), (1, .ref (ad b1)), (2, .int x2), (3, .int x3), (4, .int x4), (5, .int x5)] [] m) ∧ (∀ (m : Wm) (x2 x3 x4 x5 x6 s0 : Int32), WT m → Fx (RS [14]) m0 m → (0 : Int) ≤ x4.toInt → x4.toInt ≤ (40 : Int) → (0 : Int) ≤ x2.toInt → x2.toInt ≤ (7 : Int) → (0 : Int) ≤ x3.toInt → x3.toInt ≤ (4 : Int) → (0 : Int) ≤ x5.toInt → x5.toInt ≤ (39 : Int) → (40 - x5.toInt) * 4 + 2 < (n : Int) → AW ad E0 μX5_value (d + 3) (fun r m' => WT m' ∧ Fx (RS [14]) m0 m' ∧ ∃ v : Int32, r = some (.int v)) 59 [(0, .ref (ad 10)), (1, .ref (ad b1)), (2, .int x2), (3, .int x3), (4, .int x4), (5, .int x5), (6, .int x6)] [.int s0] m) ∧ (∀ (m : Wm) (x2 x3 x4 x5 x6 x7 : Int32), WT m → Fx (RS [14]) m0 m → (0 : Int) ≤ x4.toInt → x4.toInt ≤ (40 : Int) → (0 : Int) ≤ x2.toInt → x2.toInt ≤ (7 : Int) → (0 : Int) ≤ x3.toInt → x3.toInt ≤ (4 : Int) → (0 : Int) ≤ x5.toInt → x5.toInt ≤ (39 : Int) → (40 - x5.toInt) * 4 + 1 < (n : Int) → AW ad E0 μX5_value (d + 3) (fun r m' => WT m' ∧ Fx (RS [14]) m0 m' ∧ ∃ v : Int32, r = some (.int v)) 111 [(0, .ref (ad 10)), (1, .ref (ad b1)), (2, .int x2), (3, .int x3), (4, .int x4), (5, .int x5), (6, .int x6), (7, .int x7)] [] m) ∧ (∀ (m : Wm) (x2 x3 x4 x5 x6 : Int32), WT m → Fx (RS [14]) m0 m → (0 : Int) ≤ x4.toInt → x4.toInt ≤ (40 : Int) → (0 : Int) ≤ x2.toInt → x2.toInt ≤ (7 : Int) → (0 : Int) ≤ x3.toInt → x3.toInt ≤ (4 : Int) → (0 : Int) ≤ x5.toInt → x5.toInt ≤ (39 : Int) → (40 - x5.toInt) * 4 < (n : Int) → AW ad E0 μX5_value (d + 3) (fun r m' => WT m' ∧ Fx (RS [14]) m0 m' ∧ ∃ v : Int32, r = some (.int v)) 144 [(0, .ref (ad 10)), (1, .ref (ad b1)), (2, .int x2), (3, .int x3), (4, .int x4), (5, .int x5), (6, .int x6)] [] m) := by
  intro n
  induction n with
  | zero =>
    refine ⟨?_, ?_, ?_, ?_⟩ <;> intros <;> exfalso <;> omega
  | succ n ih =>
    refine ⟨?_, ?_, ?_, ?_⟩
    · intro m x2 x3 x4 x5 w f j1 j2 j3 j4 j5 j6 j7 j8 hn
      refine g_X5_value_20 Ru_10 hb1.1 ?_
      refine ⟨?_, ?_⟩
      · intro c1
        have r2 := w.at (a := 10) (k := 4) rfl
        have k3 := z_le c1
        refine (s_X11_clamp w).to ?_
        rintro _ m1 ⟨w_m1, g4, v2, rfl, p5⟩
        have f_m1 : Fx (RS [14]) m0 m1 := f.tr g4 (RS_sub rfl)
        have p6 : (9999 : Int) < (-9999 : Int) ∨ ((-9999 : Int) ≤ v2.toInt ∧ v2.toInt ≤ (9999 : Int)) := p5
        clear p5
        refine ⟨v2, rfl, ?_⟩
        exact ⟨w_m1, f_m1, _, rfl⟩
      · intro c7
        have r8 := w.at (a := 10) (k := 4) rfl
        have k9 := z_nle c7
        refine ⟨?_, ?_⟩
        · exact vpi (by omega) (by omega)
        · refine ⟨?_, ?_⟩
          · intro c10
            have k11 := y_lel (n := 1000) rfl c10
            refine (s_X5_rank w).to ?_
            rintro _ m3 ⟨w_m3, g12, v4, rfl, p13, p14⟩
            have f_m3 : Fx (RS [14]) m0 m3 := f.tr g12 (RS_sub rfl)
            refine ⟨v4, rfl, ?_⟩
            exact ih.2.1 _ _ _ _ _ _ _ w_m3 f_m3 (by show (0 : Int) ≤ (x4).toInt; omega) (by show (x4).toInt ≤ (40 : Int); omega) (by show (0 : Int) ≤ (x2).toInt; omega) (by show (x2).toInt ≤ (7 : Int); omega) (by show (0 : Int) ≤ (x3).toInt; omega) (by show (x3).toInt ≤ (4 : Int); omega) (by show (0 : Int) ≤ (x5).toInt; omega) (by show (x5).toInt ≤ (39 : Int); omega) (by show (40 - (x5).toInt) * 4 + 2 < _; omega)
          · intro c15
            have k16 := y_nlel (n := 1000) rfl c15
            exact ih.2.1 _ _ _ _ _ _ _ w f (by show (0 : Int) ≤ (x4).toInt; omega) (by show (x4).toInt ≤ (40 : Int); omega) (by show (0 : Int) ≤ (x2).toInt; omega) (by show (x2).toInt ≤ (7 : Int); omega) (by show (0 : Int) ≤ (x3).toInt; omega) (by show (x3).toInt ≤ (4 : Int); omega) (by show (0 : Int) ≤ (x5).toInt; omega) (by show (x5).toInt ≤ (39 : Int); omega) (by show (40 - (x5).toInt) * 4 + 2 < _; omega)
    · intro m x2 x3 x4 x5 x6 s0 w f j1 j2 j3 j4 j5 j6 j7 j8 hn
      refine g_X5_value_59 Ru_10 hb1.1 ?_
      refine ⟨?_, ?_⟩
      · intro c1
        have k2 := y_ner (n := 0) rfl c1
        exact ih.2.2.1 _ _ _ _ _ _ _ w f (by show (0 : Int) ≤ (x4).toInt; omega) (by show (x4).toInt ≤ (40 : Int); omega) (by show (0 : Int) ≤ (x2).toInt; omega) (by show (x2).toInt ≤ (7 : Int); omega) (by show (0 : Int) ≤ (x3).toInt; omega) (by show (x3).toInt ≤ (4 : Int); omega) (by show (0 : Int) ≤ (x5).toInt; omega) (by show (x5).toInt ≤ (39 : Int); omega) (by show (40 - (x5).toInt) * 4 + 1 < _; omega)
      · intro c3
        have k4 := y_eqr (n := 0) rfl c3
        refine ⟨?_, ?_⟩
        · intro c5
          have k6 := y_lel (n := 40) rfl c5
          exact ih.2.2.1 _ _ _ _ _ _ _ w f (by show (0 : Int) ≤ (x4).toInt; omega) (by show (x4).toInt ≤ (40 : Int); omega) (by show (0 : Int) ≤ (x2).toInt; omega) (by show (x2).toInt ≤ (7 : Int); omega) (by show (0 : Int) ≤ (x3).toInt; omega) (by show (x3).toInt ≤ (4 : Int); omega) (by show (0 : Int) ≤ (x5).toInt; omega) (by show (x5).toInt ≤ (39 : Int); omega) (by show (40 - (x5).toInt) * 4 + 1 < _; omega)
        · intro c7
          have k8 := y_nlel (n := 40) rfl c7
          refine ⟨?_, ?_⟩
          · intro c9
            have k10 := y_lel (n := 1000) rfl c9
            refine (s_X5_thing w hb1 (by show (0 : Int) ≤ (x2).toInt; omega) (by show (x2).toInt ≤ (7 : Int); omega) (by show (0 : Int) ≤ (x3).toInt; omega) (by show (x3).toInt ≤ (4 : Int); omega)).to ?_
            rintro _ m1 ⟨w_m1, g11, v2, rfl⟩
            have f_m1 : Fx (RS [14]) m0 m1 := f.tr g11 (RS_sub rfl)
            refine ⟨v2, rfl, ?_⟩
            refine ⟨?_, ?_⟩
            · exact vpi (by omega) (by omega)
            · have w12 : WT (uI m1 (10 + 2) x4.toNatClampNeg v2) := w_m1.n rfl
              have f12 : Fx (RS [14]) m0 (uI m1 (10 + 2) x4.toNatClampNeg v2) := f_m1.i rfl
              have t13 := ti_addc (x := x4) (y := (1 : Int32)) (c := 1) rfl (by omega)
              have t14 := ti_addc (x := x5) (y := (1 : Int32)) (c := 1) rfl (by omega)
              exact ih.1 _ _ _ _ _ w12 f12 (by show (0 : Int) ≤ ((x4 + (1 : Int32))).toInt; omega) (by show ((x4 + (1 : Int32))).toInt ≤ (40 : Int); omega) (by show (0 : Int) ≤ (x2).toInt; omega) (by show (x2).toInt ≤ (7 : Int); omega) (by show (0 : Int) ≤ (x3).toInt; omega) (by show (x3).toInt ≤ (4 : Int); omega) (by show (0 : Int) ≤ ((x5 + (1 : Int32))).toInt; omega) (by show ((x5 + (1 : Int32))).toInt ≤ (40 : Int); omega) (by show (40 - ((x5 + (1 : Int32))).toInt) * 4 + 3 < _; omega)
          · intro c15
            have k16 := y_nlel (n := 1000) rfl c15
            refine ⟨?_, ?_⟩
            · exact vpi (by omega) (by omega)
            · have w17 : WT (uI m (10 + 2) x4.toNatClampNeg x6) := w.n rfl
              have f17 : Fx (RS [14]) m0 (uI m (10 + 2) x4.toNatClampNeg x6) := f.i rfl
              have t18 := ti_addc (x := x4) (y := (1 : Int32)) (c := 1) rfl (by omega)
              have t19 := ti_addc (x := x5) (y := (1 : Int32)) (c := 1) rfl (by omega)
              exact ih.1 _ _ _ _ _ w17 f17 (by show (0 : Int) ≤ ((x4 + (1 : Int32))).toInt; omega) (by show ((x4 + (1 : Int32))).toInt ≤ (40 : Int); omega) (by show (0 : Int) ≤ (x2).toInt; omega) (by show (x2).toInt ≤ (7 : Int); omega) (by show (0 : Int) ≤ (x3).toInt; omega) (by show (x3).toInt ≤ (4 : Int); omega) (by show (0 : Int) ≤ ((x5 + (1 : Int32))).toInt; omega) (by show ((x5 + (1 : Int32))).toInt ≤ (40 : Int); omega) (by show (40 - ((x5 + (1 : Int32))).toInt) * 4 + 3 < _; omega)
    · intro m x2 x3 x4 x5 x6 x7 w f j1 j2 j3 j4 j5 j6 j7 j8 hn
      refine g_X5_value_111 Ru_10 hb1.1 ?_
      refine ⟨?_, ?_⟩
      · intro c1
        have k2 := y_ner (n := 4) rfl c1
        exact ih.2.2.2 _ _ _ _ _ _ w f (by show (0 : Int) ≤ (x4).toInt; omega) (by show (x4).toInt ≤ (40 : Int); omega) (by show (0 : Int) ≤ (x2).toInt; omega) (by show (x2).toInt ≤ (7 : Int); omega) (by show (0 : Int) ≤ (x3).toInt; omega) (by show (x3).toInt ≤ (4 : Int); omega) (by show (0 : Int) ≤ (x5).toInt; omega) (by show (x5).toInt ≤ (39 : Int); omega) (by show (40 - (x5).toInt) * 4 < _; omega)
      · intro c3
        have k4 := y_eqr (n := 4) rfl c3
        refine ⟨?_, ?_⟩
        · intro c5
          have k6 := y_ler (n := 0) rfl c5
          exact ih.2.2.2 _ _ _ _ _ _ w f (by show (0 : Int) ≤ (x4).toInt; omega) (by show (x4).toInt ≤ (40 : Int); omega) (by show (0 : Int) ≤ (x2).toInt; omega) (by show (x2).toInt ≤ (7 : Int); omega) (by show (0 : Int) ≤ (x3).toInt; omega) (by show (x3).toInt ≤ (4 : Int); omega) (by show (0 : Int) ≤ (x5).toInt; omega) (by show (x5).toInt ≤ (39 : Int); omega) (by show (40 - (x5).toInt) * 4 < _; omega)
        · intro c7
          have k8 := y_nler (n := 0) rfl c7
          refine ⟨?_, ?_⟩
          · have t9 := ti_subc (x := x4) (y := (1 : Int32)) (c := 1) rfl (by omega)
            exact vpi (by omega) (by omega)
          · refine ⟨?_, ?_⟩
            · have t10 := ti_subc (x := x4) (y := (1 : Int32)) (c := 1) rfl (by omega)
              exact vpi (by omega) (by omega)
            · have w11 : WT (uI m (10 + 2) ((x4 - (1 : Int32)).toNatClampNeg) (-(m.1 (10 + 2) ((x4 - (1 : Int32)).toNatClampNeg)))) := w.n rfl
              have f11 : Fx (RS [14]) m0 (uI m (10 + 2) ((x4 - (1 : Int32)).toNatClampNeg) (-(m.1 (10 + 2) ((x4 - (1 : Int32)).toNatClampNeg)))) := f.i rfl
              have t12 := ti_addc (x := x5) (y := (1 : Int32)) (c := 1) rfl (by omega)
              exact ih.1 _ _ _ _ _ w11 f11 (by show (0 : Int) ≤ (x4).toInt; omega) (by show (x4).toInt ≤ (40 : Int); omega) (by show (0 : Int) ≤ (x2).toInt; omega) (by show (x2).toInt ≤ (7 : Int); omega) (by show (0 : Int) ≤ (x3).toInt; omega) (by show (x3).toInt ≤ (4 : Int); omega) (by show (0 : Int) ≤ ((x5 + (1 : Int32))).toInt; omega) (by show ((x5 + (1 : Int32))).toInt ≤ (40 : Int); omega) (by show (40 - ((x5 + (1 : Int32))).toInt) * 4 + 3 < _; omega)
    · intro m x2 x3 x4 x5 x6 w f j1 j2 j3 j4 j5 j6 j7 j8 hn
      refine g_X5_value_144 Ru_10 hb1.1 ?_
      refine ⟨?_, ?_⟩
      · intro c1
        have k2 := y_ler (n := 1) rfl c1
        have t3 := ti_addc (x := x5) (y := (1 : Int32)) (c := 1) rfl (by omega)
        exact ih.1 _ _ _ _ _ w f (by show (0 : Int) ≤ (x4).toInt; omega) (by show (x4).toInt ≤ (40 : Int); omega) (by show (0 : Int) ≤ (x2).toInt; omega) (by show (x2).toInt ≤ (7 : Int); omega) (by show (0 : Int) ≤ (x3).toInt; omega) (by show (x3).toInt ≤ (4 : Int); omega) (by show (0 : Int) ≤ ((x5 + (1 : Int32))).toInt; omega) (by show ((x5 + (1 : Int32))).toInt ≤ (40 : Int); omega) (by show (40 - ((x5 + (1 : Int32))).toInt) * 4 + 3 < _; omega)
      · intro c4
        have k5 := y_nler (n := 1) rfl c4
        refine ⟨?_, ?_⟩
        · have t6 := ti_addc (x := x4) (y := (-1 : Int32)) (c := -1) rfl (by omega)
          have t7 := ti_subc (x := (x4 + (-1 : Int32))) (y := (1 : Int32)) (c := 1) rfl (by omega)
          exact vpi (by omega) (by omega)
        · refine ⟨?_, ?_⟩
          · have t8 := ti_addc (x := x4) (y := (-1 : Int32)) (c := -1) rfl (by omega)
            exact vpi (by omega) (by omega)
          · refine (s_X5_joined w).to ?_
            rintro _ m1 ⟨w_m1, g9, v2, rfl⟩
            have f_m1 : Fx (RS [14]) m0 m1 := f.tr g9 (RS_sub rfl)
            refine ⟨v2, rfl, ?_⟩
            refine ⟨?_, ?_⟩
            · have t10 := ti_addc (x := x4) (y := (-1 : Int32)) (c := -1) rfl (by omega)
              have t11 := ti_subc (x := (x4 + (-1 : Int32))) (y := (1 : Int32)) (c := 1) rfl (by omega)
              exact vpi (by omega) (by omega)
            · have w12 : WT (uI m1 (10 + 2) (((x4 + (-1 : Int32)) - (1 : Int32)).toNatClampNeg) v2) := w_m1.n rfl
              have f12 : Fx (RS [14]) m0 (uI m1 (10 + 2) (((x4 + (-1 : Int32)) - (1 : Int32)).toNatClampNeg) v2) := f_m1.i rfl
              have t13 := ti_addc (x := x4) (y := (-1 : Int32)) (c := -1) rfl (by omega)
              have t14 := ti_addc (x := x5) (y := (1 : Int32)) (c := 1) rfl (by omega)
              exact ih.1 _ _ _ _ _ w12 f12 (by show (0 : Int) ≤ ((x4 + (-1 : Int32))).toInt; omega) (by show ((x4 + (-1 : Int32))).toInt ≤ (40 : Int); omega) (by show (0 : Int) ≤ (x2).toInt; omega) (by show (x2).toInt ≤ (7 : Int); omega) (by show (0 : Int) ≤ (x3).toInt; omega) (by show (x3).toInt ≤ (4 : Int); omega) (by show (0 : Int) ≤ ((x5 + (1 : Int32))).toInt; omega) (by show ((x5 + (1 : Int32))).toInt ≤ (40 : Int); omega) (by show (40 - ((x5 + (1 : Int32))).toInt) * 4 + 3 < _; omega)
set_option maxHeartbeats 4000000 in
theorem s_X5_value_10 {ad : Nat → Nat} {d : Nat} {m : Wm} {b1 ρ1 : Nat} {x2 x3 : Int32} (w : WT m) (hb1 : SS b1 ρ1) (i1 : (0 : Int) ≤ x2.toInt) (i2 : x2.toInt ≤ (7 : Int)) (i3 : (0 : Int) ≤ x3.toInt) (i4 : x3.toInt ≤ (4 : Int)) : Ct ad μX5_value (d + 3) [.ref (ad 10), .ref (ad b1), .int x2, .int x3] m (fun r m' => WT m' ∧ Fx (RS [14]) m m' ∧ ∃ v : Int32, r = some (.int v)) := by
  have f : Fx (RS [14]) m m := Fx.rf
  refine v_X5_value Ru_10 hb1.1 ?_
  refine ⟨?_, ?_⟩
  · intro c1
    have r2 := w.at (a := 10) (k := 4) rfl
    have k3 := y_ner (n := 0) rfl c1
    exact (l_X5_value_10 (m0 := m) hb1 1000000).1 _ _ _ _ _ w f (by show (0 : Int) ≤ (0 : Int); omega) (by show (0 : Int) ≤ (40 : Int); omega) (by show (0 : Int) ≤ (x2).toInt; omega) (by show (x2).toInt ≤ (7 : Int); omega) (by show (0 : Int) ≤ (x3).toInt; omega) (by show (x3).toInt ≤ (4 : Int); omega) (by show (0 : Int) ≤ (0 : Int); omega) (by show (0 : Int) ≤ (40 : Int); omega) (by show (40 - (0 : Int)) * 4 + 3 < _; omega)
  · intro c4
    have r5 := w.at (a := 10) (k := 4) rfl
    have k6 := y_eqr (n := 0) rfl c4
    refine (s_X8_sum w hb1 (by show (0 : Int) ≤ (x2).toInt; omega) (by show (x2).toInt ≤ (7 : Int); omega) (by show (0 : Int) ≤ (x3).toInt; omega) (by show (x3).toInt ≤ (4 : Int); omega)).to ?_
    rintro _ m1 ⟨w_m1, g7, v2, rfl⟩
    have f_m1 : Fx (RS [14]) m m1 := f.tr g7 (RS_sub rfl)
    refine ⟨v2, rfl, ?_⟩
    exact ⟨w_m1, f_m1, _, rfl⟩
theorem s_X5_value {ad : Nat → Nat} {d : Nat} {m : Wm} {b0 b1 ρ1 : Nat} {x2 x3 : Int32} (w : WT m) (hb0 : b0 = 5 ∨ b0 = 10) (hb1 : SS b1 ρ1) (i1 : (0 : Int) ≤ x2.toInt) (i2 : x2.toInt ≤ (7 : Int)) (i3 : (0 : Int) ≤ x3.toInt) (i4 : x3.toInt ≤ (4 : Int)) : Ct ad μX5_value (d + 3) [.ref (ad b0), .ref (ad b1), .int x2, .int x3] m (fun r m' => WT m' ∧ Fx (RS [14]) m m' ∧ ∃ v : Int32, r = some (.int v)) := by
  rcases hb0 with rfl | rfl
  · exact s_X5_value_5 w hb1 i1 i2 i3 i4
  · exact s_X5_value_10 w hb1 i1 i2 i3 i4
set_option maxHeartbeats 4000000 in
theorem s_X1_power {ad : Nat → Nat} {d : Nat} {m : Wm} {b1 ρ1 : Nat} {x2 : Int32} (w : WT m) (hb1 : SS b1 ρ1) (i1 : (0 : Int) ≤ x2.toInt) (i2 : x2.toInt ≤ (7 : Int)) : Ct ad μX1_power (d + 4) [.ref (ad 3), .ref (ad b1), .int x2] m (fun r m' => WT m' ∧ Fx (RS [14]) m m' ∧ ∃ v : Int32, r = some (.int v)) := by
  have f : Fx (RS [14]) m m := Fx.rf
  refine v_X1_power hb1.1 ?_
  obtain ⟨r1, e1, q2⟩ := w.r31
  refine ⟨r1, e1, Ru_of q2, ?_⟩
  have r3 := w.at (a := 3) (k := 4) rfl
  refine (s_X5_value w q2 hb1 (by show (0 : Int) ≤ (x2).toInt; omega) (by show (x2).toInt ≤ (7 : Int); omega) (by show (0 : Int) ≤ ((m.1 3 4)).toInt; omega) (by show ((m.1 3 4)).toInt ≤ (4 : Int); omega)).to ?_
  rintro _ m2 ⟨w_m2, g4, v3, rfl⟩
  have f_m2 : Fx (RS [14]) m m2 := f.tr g4 (RS_sub rfl)
  refine ⟨v3, rfl, ?_⟩
  exact ⟨w_m2, f_m2, _, rfl⟩
set_option maxHeartbeats 4000000 in
theorem l_X1_strongest {ad : Nat → Nat} {d : Nat} {m0 : Wm} {b1 ρ1 : Nat} (hb1 : SS b1 ρ1) : ∀ n : Nat, (∀ (m : Wm) (x2 x3 x4 : Int32), WT m → Fx (RS [14]) m0 m → (0 : Int) ≤ x2.toInt → x2.toInt ≤ (7 : Int) → (0 : Int) ≤ x4.toInt → x4.toInt ≤ (8 : Int) → 8 - x4.toInt < (n : Int) → AW ad E0 μX1_strongest (d + 5) (fun r m' => WT m' ∧ Fx (RS [14]) m0 m' ∧ ∃ v : Int32, r = some (.int v) ∧ (0 : Int) ≤ v.toInt ∧ v.toInt ≤ 7) 7 [(0, .ref (ad 3)), (1, .ref (ad b1)), (2, .int x2), (3, .int x3), (4, .int x4)] [] m) := by
  intro n
  induction n with
  | zero =>
    intros
    exfalso
    omega
  | succ n ih =>
    intro m x2 x3 x4 w f j1 j2 j3 j4 hn
    refine g_X1_strongest_7 hb1.1 ?_
    refine ⟨?_, ?_⟩
    · intro c1
      have r2 := w.at (a := 3) (k := 3) rfl
      have k3 := z_le c1
      exact ⟨w, f, _, rfl, (by show (0 : Int) ≤ (x2).toInt; omega), (by show (x2).toInt ≤ (7 : Int); omega)⟩
    · intro c4
      have r5 := w.at (a := 3) (k := 3) rfl
      have k6 := z_nle c4
      refine (s_X1_power w hb1 (by show (0 : Int) ≤ (x4).toInt; omega) (by show (x4).toInt ≤ (7 : Int); omega)).to ?_
      rintro _ m1 ⟨w_m1, g7, v2, rfl⟩
      have f_m1 : Fx (RS [14]) m0 m1 := f.tr g7 (RS_sub rfl)
      refine ⟨v2, rfl, ?_⟩
      refine ⟨?_, ?_⟩
      · intro c8
        have k9 := y_eqr (n := 0) rfl c8
        have t10 := ti_addc (x := x4) (y := (1 : Int32)) (c := 1) rfl (by omega)
        exact ih _ _ _ _ w_m1 f_m1 (by show (0 : Int) ≤ (x4).toInt; omega) (by show (x4).toInt ≤ (7 : Int); omega) (by show (0 : Int) ≤ ((x4 + (1 : Int32))).toInt; omega) (by show ((x4 + (1 : Int32))).toInt ≤ (8 : Int); omega) (by show 8 - ((x4 + (1 : Int32))).toInt < _; omega)
      · intro c11
        have k12 := y_ner (n := 0) rfl c11
        refine ⟨?_, ?_⟩
        · intro c13
          have k14 := z_le c13
          have t15 := ti_addc (x := x4) (y := (1 : Int32)) (c := 1) rfl (by omega)
          exact ih _ _ _ _ w_m1 f_m1 (by show (0 : Int) ≤ (x2).toInt; omega) (by show (x2).toInt ≤ (7 : Int); omega) (by show (0 : Int) ≤ ((x4 + (1 : Int32))).toInt; omega) (by show ((x4 + (1 : Int32))).toInt ≤ (8 : Int); omega) (by show 8 - ((x4 + (1 : Int32))).toInt < _; omega)
        · intro c16
          have k17 := z_nle c16
          have t18 := ti_addc (x := x4) (y := (1 : Int32)) (c := 1) rfl (by omega)
          exact ih _ _ _ _ w_m1 f_m1 (by show (0 : Int) ≤ (x4).toInt; omega) (by show (x4).toInt ≤ (7 : Int); omega) (by show (0 : Int) ≤ ((x4 + (1 : Int32))).toInt; omega) (by show ((x4 + (1 : Int32))).toInt ≤ (8 : Int); omega) (by show 8 - ((x4 + (1 : Int32))).toInt < _; omega)
set_option maxHeartbeats 4000000 in
theorem s_X1_strongest {ad : Nat → Nat} {d : Nat} {m : Wm} {b1 ρ1 : Nat} (w : WT m) (hb1 : SS b1 ρ1) : Ct ad μX1_strongest (d + 5) [.ref (ad 3), .ref (ad b1)] m (fun r m' => WT m' ∧ Fx (RS [14]) m m' ∧ ∃ v : Int32, r = some (.int v) ∧ (0 : Int) ≤ v.toInt ∧ v.toInt ≤ 7) := by
  have f : Fx (RS [14]) m m := Fx.rf
  refine v_X1_strongest hb1.1 ?_
  exact (l_X1_strongest (m0 := m) hb1 1000000) _ _ _ _ w f (by show (0 : Int) ≤ (0 : Int); omega) (by show (0 : Int) ≤ (7 : Int); omega) (by show (0 : Int) ≤ (0 : Int); omega) (by show (0 : Int) ≤ (8 : Int); omega) (by show 8 - (0 : Int) < _; omega)
set_option maxHeartbeats 4000000 in
theorem l_X1_weakest {ad : Nat → Nat} {d : Nat} {m0 : Wm} {b1 ρ1 : Nat} (hb1 : SS b1 ρ1) : ∀ n : Nat, (∀ (m : Wm) (x2 x3 x4 : Int32), WT m → Fx (RS [14]) m0 m → (0 : Int) ≤ x2.toInt → x2.toInt ≤ (7 : Int) → (0 : Int) ≤ x4.toInt → x4.toInt ≤ (8 : Int) → 8 - x4.toInt < (n : Int) → AW ad E0 μX1_weakest (d + 5) (fun r m' => WT m' ∧ Fx (RS [14]) m0 m' ∧ ∃ v : Int32, r = some (.int v) ∧ (0 : Int) ≤ v.toInt ∧ v.toInt ≤ 7) 7 [(0, .ref (ad 3)), (1, .ref (ad b1)), (2, .int x2), (3, .int x3), (4, .int x4)] [] m) := by
  intro n
  induction n with
  | zero =>
    intros
    exfalso
    omega
  | succ n ih =>
    intro m x2 x3 x4 w f j1 j2 j3 j4 hn
    refine g_X1_weakest_7 hb1.1 ?_
    refine ⟨?_, ?_⟩
    · intro c1
      have r2 := w.at (a := 3) (k := 3) rfl
      have k3 := z_le c1
      exact ⟨w, f, _, rfl, (by show (0 : Int) ≤ (x2).toInt; omega), (by show (x2).toInt ≤ (7 : Int); omega)⟩
    · intro c4
      have r5 := w.at (a := 3) (k := 3) rfl
      have k6 := z_nle c4
      refine (s_X1_power w hb1 (by show (0 : Int) ≤ (x4).toInt; omega) (by show (x4).toInt ≤ (7 : Int); omega)).to ?_
      rintro _ m1 ⟨w_m1, g7, v2, rfl⟩
      have f_m1 : Fx (RS [14]) m0 m1 := f.tr g7 (RS_sub rfl)
      refine ⟨v2, rfl, ?_⟩
      refine ⟨?_, ?_⟩
      · intro c8
        have k9 := y_eqr (n := 0) rfl c8
        have t10 := ti_addc (x := x4) (y := (1 : Int32)) (c := 1) rfl (by omega)
        exact ih _ _ _ _ w_m1 f_m1 (by show (0 : Int) ≤ (x4).toInt; omega) (by show (x4).toInt ≤ (7 : Int); omega) (by show (0 : Int) ≤ ((x4 + (1 : Int32))).toInt; omega) (by show ((x4 + (1 : Int32))).toInt ≤ (8 : Int); omega) (by show 8 - ((x4 + (1 : Int32))).toInt < _; omega)
      · intro c11
        have k12 := y_ner (n := 0) rfl c11
        refine ⟨?_, ?_⟩
        · intro c13
          have k14 := z_le c13
          have t15 := ti_addc (x := x4) (y := (1 : Int32)) (c := 1) rfl (by omega)
          exact ih _ _ _ _ w_m1 f_m1 (by show (0 : Int) ≤ (x2).toInt; omega) (by show (x2).toInt ≤ (7 : Int); omega) (by show (0 : Int) ≤ ((x4 + (1 : Int32))).toInt; omega) (by show ((x4 + (1 : Int32))).toInt ≤ (8 : Int); omega) (by show 8 - ((x4 + (1 : Int32))).toInt < _; omega)
        · intro c16
          have k17 := z_nle c16
          have t18 := ti_addc (x := x4) (y := (1 : Int32)) (c := 1) rfl (by omega)
          exact ih _ _ _ _ w_m1 f_m1 (by show (0 : Int) ≤ (x4).toInt; omega) (by show (x4).toInt ≤ (7 : Int); omega) (by show (0 : Int) ≤ ((x4 + (1 : Int32))).toInt; omega) (by show ((x4 + (1 : Int32))).toInt ≤ (8 : Int); omega) (by show 8 - ((x4 + (1 : Int32))).toInt < _; omega)
set_option maxHeartbeats 4000000 in
theorem s_X1_weakest {ad : Nat → Nat} {d : Nat} {m : Wm} {b1 ρ1 : Nat} (w : WT m) (hb1 : SS b1 ρ1) : Ct ad μX1_weakest (d + 5) [.ref (ad 3), .ref (ad b1)] m (fun r m' => WT m' ∧ Fx (RS [14]) m m' ∧ ∃ v : Int32, r = some (.int v) ∧ (0 : Int) ≤ v.toInt ∧ v.toInt ≤ 7) := by
  have f : Fx (RS [14]) m m := Fx.rf
  refine v_X1_weakest hb1.1 ?_
  exact (l_X1_weakest (m0 := m) hb1 1000000) _ _ _ _ w f (by show (0 : Int) ≤ (0 : Int); omega) (by show (0 : Int) ≤ (7 : Int); omega) (by show (0 : Int) ≤ (0 : Int); omega) (by show (0 : Int) ≤ (8 : Int); omega) (by show 8 - (0 : Int) < _; omega)
set_option maxHeartbeats 4000000 in
theorem l_X1_total {ad : Nat → Nat} {d : Nat} {m0 : Wm} {b1 ρ1 : Nat} (hb1 : SS b1 ρ1) : ∀ n : Nat, (∀ (m : Wm) (x2 x3 : Int32), WT m → Fx (RS []) m0 m → (0 : Int) ≤ x3.toInt → x3.toInt ≤ (8 : Int) → 8 - x3.toInt < (n : Int) → AW ad E0 μX1_total (d + 2) (fun r m' => WT m' ∧ Fx (RS []) m0 m' ∧ ∃ v : Int32, r = some (.int v)) 4 [(0, .ref (ad 3)), (1, .ref (ad b1)), (2, .int x2), (3, .int x3)] [] m) := by
  intro n
  induction n with
  | zero =>
    intros
    exfalso
    omega
  | succ n ih =>
    intro m x2 x3 w f j1 j2 hn
    refine g_X1_total_4 hb1.1 ?_
    refine ⟨?_, ?_⟩
    · intro c1
      have r2 := w.at (a := 3) (k := 3) rfl
      have k3 := z_le c1
      exact ⟨w, f, _, rfl⟩
    · intro c4
      have r5 := w.at (a := 3) (k := 3) rfl
      have k6 := z_nle c4
      have r7 := w.at (a := 3) (k := 4) rfl
      refine (s_X8_sum w hb1 (by show (0 : Int) ≤ (x3).toInt; omega) (by show (x3).toInt ≤ (7 : Int); omega) (by show (0 : Int) ≤ ((m.1 3 4)).toInt; omega) (by show ((m.1 3 4)).toInt ≤ (4 : Int); omega)).to ?_
      rintro _ m1 ⟨w_m1, g8, v2, rfl⟩
      have f_m1 : Fx (RS []) m0 m1 := f.tr g8 (RS_sub rfl)
      refine ⟨v2, rfl, ?_⟩
      have t9 := ti_addc (x := x3) (y := (1 : Int32)) (c := 1) rfl (by omega)
      exact ih _ _ _ w_m1 f_m1 (by show (0 : Int) ≤ ((x3 + (1 : Int32))).toInt; omega) (by show ((x3 + (1 : Int32))).toInt ≤ (8 : Int); omega) (by show 8 - ((x3 + (1 : Int32))).toInt < _; omega)
set_option maxHeartbeats 4000000 in
theorem s_X1_total {ad : Nat → Nat} {d : Nat} {m : Wm} {b1 ρ1 : Nat} (w : WT m) (hb1 : SS b1 ρ1) : Ct ad μX1_total (d + 2) [.ref (ad 3), .ref (ad b1)] m (fun r m' => WT m' ∧ Fx (RS []) m m' ∧ ∃ v : Int32, r = some (.int v)) := by
  have f : Fx (RS []) m m := Fx.rf
  refine v_X1_total hb1.1 ?_
  exact (l_X1_total (m0 := m) hb1 1000000) _ _ _ w f (by show (0 : Int) ≤ (0 : Int); omega) (by show (0 : Int) ≤ (8 : Int); omega) (by show 8 - (0 : Int) < _; omega)
set_option maxHeartbeats 4000000 in
theorem s_X1_resultOf {ad : Nat → Nat} {d : Nat} {m : Wm} {x1 : Int32} (w : WT m) : Ct ad μX1_resultOf d [.ref (ad 3), .int x1] m (fun r m' => WT m' ∧ Fx (RS []) m m' ∧ ∃ v : Int32, r = some (.int v) ∧ (0 : Int) ≤ v.toInt ∧ v.toInt ≤ 2) := by
  have f : Fx (RS []) m m := Fx.rf
  refine v_X1_resultOf  ?_
  refine ⟨?_, ?_⟩
  · intro c1
    have k2 := z_le c1
    refine ⟨?_, ?_⟩
    · intro c3
      have k4 := z_le c3
      exact ⟨w, f, _, rfl, (by show (0 : Int) ≤ (2 : Int); omega), (by show (2 : Int) ≤ (2 : Int); omega)⟩
    · intro c5
      have k6 := z_nle c5
      exact ⟨w, f, _, rfl, (by show (0 : Int) ≤ (1 : Int); omega), (by show (1 : Int) ≤ (2 : Int); omega)⟩
  · intro c7
    have k8 := z_nle c7
    exact ⟨w, f, _, rfl, (by show (0 : Int) ≤ (0 : Int); omega), (by show (0 : Int) ≤ (2 : Int); omega)⟩
set_option maxHeartbeats 4000000 in
theorem s_X1_result {ad : Nat → Nat} {d : Nat} {m : Wm} {b1 ρ1 : Nat} {x2 x3 x4 : Int32} (w : WT m) (hb1 : SS b1 ρ1) (i1 : (0 : Int) ≤ x2.toInt) (i2 : x2.toInt ≤ (7 : Int)) (i3 : (0 : Int) ≤ x3.toInt) (i4 : x3.toInt ≤ (7 : Int)) : Ct ad μX1_result (d + 4) [.ref (ad 3), .ref (ad b1), .int x2, .int x3, .int x4] m (fun r m' => WT m' ∧ Fx (RS [14]) m m' ∧ ∃ v : Int32, r = some (.int v) ∧ (0 : Int) ≤ v.toInt ∧ v.toInt ≤ 2) := by
  have f : Fx (RS [14]) m m := Fx.rf
  refine v_X1_result hb1.1 ?_
  refine ⟨?_, ?_⟩
  · intro c1
    have k2 := y_ner (n := 3) rfl c1
    refine ⟨?_, ?_⟩
    · intro c3
      have k4 := y_eqr (n := 0) rfl c3
      obtain ⟨r1, e5, q6⟩ := w.r31
      refine ⟨r1, e5, Ru_of q6, ?_⟩
      have r7 := w.at (a := 3) (k := 4) rfl
      refine (s_X5_value w q6 hb1 (by show (0 : Int) ≤ (x2).toInt; omega) (by show (x2).toInt ≤ (7 : Int); omega) (by show (0 : Int) ≤ ((m.1 3 4)).toInt; omega) (by show ((m.1 3 4)).toInt ≤ (4 : Int); omega)).to ?_
      rintro _ m2 ⟨w_m2, g8, v3, rfl⟩
      have f_m2 : Fx (RS [14]) m m2 := f.tr g8 (RS_sub rfl)
      refine ⟨v3, rfl, ?_⟩
      obtain ⟨r4, e9, q10⟩ := w_m2.r31
      refine ⟨r4, e9, Ru_of q10, ?_⟩
      have r11 := w_m2.at (a := 3) (k := 4) rfl
      refine (s_X5_value w_m2 q10 hb1 (by show (0 : Int) ≤ (x3).toInt; omega) (by show (x3).toInt ≤ (7 : Int); omega) (by show (0 : Int) ≤ ((m2.1 3 4)).toInt; omega) (by show ((m2.1 3 4)).toInt ≤ (4 : Int); omega)).to ?_
      rintro _ m5 ⟨w_m5, g12, v6, rfl⟩
      have f_m5 : Fx (RS [14]) m m5 := f_m2.tr g12 (RS_sub rfl)
      refine ⟨v6, rfl, ?_⟩
      refine (s_X1_resultOf w_m5).to ?_
      rintro _ m7 ⟨w_m7, g13, v8, rfl, p14, p15⟩
      have f_m7 : Fx (RS [14]) m m7 := f_m5.tr g13 (RS_sub rfl)
      refine ⟨v8, rfl, ?_⟩
      exact ⟨w_m7, f_m7, _, rfl, (by show (0 : Int) ≤ (v8).toInt; omega), (by show (v8).toInt ≤ (2 : Int); omega)⟩
    · intro c16
      have k17 := y_ner (n := 0) rfl c16
      refine ⟨?_, ?_⟩
      · intro c18
        have k19 := y_ner (n := 1) rfl c18
        exact ⟨w, f, _, rfl, (by show (0 : Int) ≤ (0 : Int); omega), (by show (0 : Int) ≤ (2 : Int); omega)⟩
      · intro c20
        have k21 := y_eqr (n := 1) rfl c20
        exact ⟨w, f, _, rfl, (by show (0 : Int) ≤ (1 : Int); omega), (by show (1 : Int) ≤ (2 : Int); omega)⟩
  · intro c22
    have k23 := y_eqr (n := 3) rfl c22
    exact ⟨w, f, _, rfl, (by show (0 : Int) ≤ (2 : Int); omega), (by show (2 : Int) ≤ (2 : Int); omega)⟩
set_option maxHeartbeats 4000000 in
theorem s_X1_chance {ad : Nat → Nat} {d : Nat} {m : Wm} {b1 ρ1 : Nat} {x2 x3 : Int32} (w : WT m) (hb1 : SS b1 ρ1) (i1 : (0 : Int) ≤ x2.toInt) (i2 : x2.toInt ≤ (7 : Int)) (i3 : (0 : Int) ≤ x3.toInt) (i4 : x3.toInt ≤ (7 : Int)) : Ct ad μX1_chance (d + 4) [.ref (ad 3), .ref (ad b1), .int x2, .int x3] m (fun r m' => WT m' ∧ Fx (RS [14]) m m' ∧ ∃ v : Int32, r = some (.int v) ∧ (0 : Int) ≤ v.toInt ∧ v.toInt ≤ 100) := by
  have f : Fx (RS [14]) m m := Fx.rf
  refine v_X1_chance hb1.1 ?_
  obtain ⟨r1, e1, q2⟩ := w.r31
  refine ⟨r1, e1, Ru_of q2, ?_⟩
  have r3 := w.at (a := 3) (k := 4) rfl
  refine (s_X5_value w q2 hb1 (by show (0 : Int) ≤ (x2).toInt; omega) (by show (x2).toInt ≤ (7 : Int); omega) (by show (0 : Int) ≤ ((m.1 3 4)).toInt; omega) (by show ((m.1 3 4)).toInt ≤ (4 : Int); omega)).to ?_
  rintro _ m2 ⟨w_m2, g4, v3, rfl⟩
  have f_m2 : Fx (RS [14]) m m2 := f.tr g4 (RS_sub rfl)
  refine ⟨v3, rfl, ?_⟩
  obtain ⟨r4, e5, q6⟩ := w_m2.r31
  refine ⟨r4, e5, Ru_of q6, ?_⟩
  have r7 := w_m2.at (a := 3) (k := 4) rfl
  refine (s_X5_value w_m2 q6 hb1 (by show (0 : Int) ≤ (x3).toInt; omega) (by show (x3).toInt ≤ (7 : Int); omega) (by show (0 : Int) ≤ ((m2.1 3 4)).toInt; omega) (by show ((m2.1 3 4)).toInt ≤ (4 : Int); omega)).to ?_
  rintro _ m5 ⟨w_m5, g8, v6, rfl⟩
  have f_m5 : Fx (RS [14]) m m5 := f_m2.tr g8 (RS_sub rfl)
  refine ⟨v6, rfl, ?_⟩
  refine (s_X11_clamp w_m5).to ?_
  rintro _ m7 ⟨w_m7, g9, v8, rfl, p10⟩
  have f_m7 : Fx (RS [14]) m m7 := f_m5.tr g9 (RS_sub rfl)
  have p11 : (100 : Int) < (0 : Int) ∨ ((0 : Int) ≤ v8.toInt ∧ v8.toInt ≤ (100 : Int)) := p10
  clear p10
  refine ⟨v8, rfl, ?_⟩
  exact ⟨w_m7, f_m7, _, rfl, (by show (0 : Int) ≤ (v8).toInt; omega), (by show (v8).toInt ≤ (100 : Int); omega)⟩
set_option maxHeartbeats 4000000 in
theorem s_X1_drawnResult {ad : Nat → Nat} {d : Nat} {m : Wm} {b1 ρ1 : Nat} {x2 x3 : Int32} (w : WT m) (hb1 : SS b1 ρ1) (i1 : (0 : Int) ≤ x2.toInt) (i2 : x2.toInt ≤ (7 : Int)) (i3 : (0 : Int) ≤ x3.toInt) (i4 : x3.toInt ≤ (7 : Int)) : Ct ad μX1_drawnResult (d + 5) [.ref (ad 3), .ref (ad b1), .int x2, .int x3] m (fun r m' => WT m' ∧ Fx (RS (ρ1 :: [14])) m m' ∧ ∃ v : Int32, r = some (.int v) ∧ (0 : Int) ≤ v.toInt ∧ v.toInt ≤ 1) := by
  have f : Fx (RS (ρ1 :: [14])) m m := Fx.rf
  refine v_X1_drawnResult hb1.1 ?_
  refine (s_X1_chance w hb1 (by show (0 : Int) ≤ (x2).toInt; omega) (by show (x2).toInt ≤ (7 : Int); omega) (by show (0 : Int) ≤ (x3).toInt; omega) (by show (x3).toInt ≤ (7 : Int); omega)).to ?_
  rintro _ m1 ⟨w_m1, g1, v2, rfl, p2, p3⟩
  have f_m1 : Fx (RS (ρ1 :: [14])) m m1 := f.tr g1 (RS_tl rfl)
  refine ⟨v2, rfl, ?_⟩
  refine ⟨?_, ?_⟩
  · intro c4
    have w5 : WT (uI m1 b1 4 (((m1.1 b1 4) * (1103515245 : Int32)) + (12345 : Int32))) := w_m1.s0 hb1.2
    have f5 : Fx (RS (ρ1 :: [14])) m (uI m1 b1 4 (((m1.1 b1 4) * (1103515245 : Int32)) + (12345 : Int32))) := f_m1.i (RS_hd0 hb1.2)
    exact ⟨w5, f5, _, rfl, (by show (0 : Int) ≤ (1 : Int); omega), (by show (1 : Int) ≤ (1 : Int); omega)⟩
  · intro c6
    have w7 : WT (uI m1 b1 4 (((m1.1 b1 4) * (1103515245 : Int32)) + (12345 : Int32))) := w_m1.s0 hb1.2
    have f7 : Fx (RS (ρ1 :: [14])) m (uI m1 b1 4 (((m1.1 b1 4) * (1103515245 : Int32)) + (12345 : Int32))) := f_m1.i (RS_hd0 hb1.2)
    exact ⟨w7, f7, _, rfl, (by show (0 : Int) ≤ (0 : Int); omega), (by show (0 : Int) ≤ (1 : Int); omega)⟩
set_option maxHeartbeats 4000000 in
theorem s_X1_givePoints {ad : Nat → Nat} {d : Nat} {m : Wm} {b0 ρ0 : Nat} {x1 x2 x3 : Int32} (w : WT m) (hb0 : SS b0 ρ0) (i1 : (0 : Int) ≤ x1.toInt) (i2 : x1.toInt ≤ (7 : Int)) (i3 : (0 : Int) ≤ x2.toInt) (i4 : x2.toInt ≤ (7 : Int)) : Ct ad μX1_givePoints d [.ref (ad b0), .int x1, .int x2, .int x3] m (fun r m' => WT m' ∧ Fx (RS (ρ0 :: [])) m m' ∧ r = none) := by
  have f : Fx (RS (ρ0 :: [])) m m := Fx.rf
  refine v_X1_givePoints hb0.1 ?_
  refine ⟨?_, ?_⟩
  · intro c1
    have k2 := y_ner (n := 2) rfl c1
    refine ⟨?_, ?_⟩
    · intro c3
      have k4 := y_ner (n := 0) rfl c3
      refine ⟨?_, ?_⟩
      · exact vpi (by omega) (by omega)
      · refine ⟨?_, ?_⟩
        · exact vpi (by omega) (by omega)
        · have w5 : WT (uI m (b0 + 2) x2.toNatClampNeg ((m.1 (b0 + 2) x2.toNatClampNeg) + (3 : Int32))) := w.s hb0.2 (by decide)
          have f5 : Fx (RS (ρ0 :: [])) m (uI m (b0 + 2) x2.toNatClampNeg ((m.1 (b0 + 2) x2.toNatClampNeg) + (3 : Int32))) := f.i (RS_hd hb0.2 (by decide))
          exact ⟨w5, f5, rfl⟩
    · intro c6
      have k7 := y_eqr (n := 0) rfl c6
      refine ⟨?_, ?_⟩
      · exact vpi (by omega) (by omega)
      · refine ⟨?_, ?_⟩
        · exact vpi (by omega) (by omega)
        · have w8 : WT (uI m (b0 + 2) x1.toNatClampNeg ((m.1 (b0 + 2) x1.toNatClampNeg) + (3 : Int32))) := w.s hb0.2 (by decide)
          have f8 : Fx (RS (ρ0 :: [])) m (uI m (b0 + 2) x1.toNatClampNeg ((m.1 (b0 + 2) x1.toNatClampNeg) + (3 : Int32))) := f.i (RS_hd hb0.2 (by decide))
          exact ⟨w8, f8, rfl⟩
  · intro c9
    have k10 := y_eqr (n := 2) rfl c9
    refine ⟨?_, ?_⟩
    · exact vpi (by omega) (by omega)
    · refine ⟨?_, ?_⟩
      · exact vpi (by omega) (by omega)
      · refine ⟨?_, ?_⟩
        · exact vpi (by omega) (by omega)
        · refine ⟨?_, ?_⟩
          · exact vpi (by omega) (by omega)
          · have w11 : WT (uI m (b0 + 2) x1.toNatClampNeg ((m.1 (b0 + 2) x1.toNatClampNeg) + (1 : Int32))) := w.s hb0.2 (by decide)
            have f11 : Fx (RS (ρ0 :: [])) m (uI m (b0 + 2) x1.toNatClampNeg ((m.1 (b0 + 2) x1.toNatClampNeg) + (1 : Int32))) := f.i (RS_hd hb0.2 (by decide))
            have w12 : WT (uI (uI m (b0 + 2) x1.toNatClampNeg ((m.1 (b0 + 2) x1.toNatClampNeg) + (1 : Int32))) (b0 + 2) x2.toNatClampNeg (((uI m (b0 + 2) x1.toNatClampNeg ((m.1 (b0 + 2) x1.toNatClampNeg) + (1 : Int32))).1 (b0 + 2) x2.toNatClampNeg) + (1 : Int32))) := w11.s hb0.2 (by decide)
            have f12 : Fx (RS (ρ0 :: [])) m (uI (uI m (b0 + 2) x1.toNatClampNeg ((m.1 (b0 + 2) x1.toNatClampNeg) + (1 : Int32))) (b0 + 2) x2.toNatClampNeg (((uI m (b0 + 2) x1.toNatClampNeg ((m.1 (b0 + 2) x1.toNatClampNeg) + (1 : Int32))).1 (b0 + 2) x2.toNatClampNeg) + (1 : Int32))) := f11.i (RS_hd hb0.2 (by decide))
            exact ⟨w12, f12, rfl⟩
set_option maxHeartbeats 4000000 in
theorem l_X1_teach {ad : Nat → Nat} {d : Nat} {m0 : Wm} {b1 ρ1 : Nat} (hb1 : SS b1 ρ1) : ∀ n : Nat, (∀ (m : Wm) (x2 x3 x4 x5 x6 x7 s0 : Int32), WT m → Fx (RS (ρ1 :: [2])) m0 m → (0 : Int) ≤ x2.toInt → x2.toInt ≤ (7 : Int) → 0 * x2.toInt + 2 < (n : Int) → AW ad E0 μX1_teach (d + 2) (fun r m' => WT m' ∧ Fx (RS (ρ1 :: [2])) m0 m' ∧ r = none) 63 [(0, .ref (ad 3)), (1, .ref (ad b1)), (2, .int x2), (3, .int x3), (4, .int x4), (5, .int x5), (6, .int x6), (7, .int x7)] [.int s0] m) ∧ (∀ (m : Wm) (x5 x8 : Int32), WT m → Fx (RS (ρ1 :: [2])) m0 m → 0 * x5.toInt + 1 < (n : Int) → AW ad E0 μX1_teach (d + 2) (fun r m' => WT m' ∧ Fx (RS (ρ1 :: [2])) m0 m' ∧ r = none) 117 [(0, .ref (ad 3)), (5, .int x5), (8, .int x8)] [] m) := by
  intro n
  induction n with
  | zero =>
    refine ⟨?_, ?_⟩ <;> intros <;> exfalso <;> omega
  | succ n ih =>
    refine ⟨?_, ?_⟩
    · intro m x2 x3 x4 x5 x6 x7 s0 w f j1 j2 hn
      refine g_X1_teach_63 hb1.1 ?_
      refine (s_X8_putSkill w hb1).to ?_
      rintro _ m1 ⟨w_m1, g1, rfl⟩
      have f_m1 : Fx (RS (ρ1 :: [2])) m0 m1 := f.tr g1 (RS_cons rfl)
      refine ⟨rfl, ?_⟩
      refine (s_X11_clamp w_m1).to ?_
      rintro _ m2 ⟨w_m2, g2, v3, rfl, p3⟩
      have f_m2 : Fx (RS (ρ1 :: [2])) m0 m2 := f_m1.tr g2 (RS_tl rfl)
      have p4 : (7 : Int) < (0 : Int) ∨ ((0 : Int) ≤ v3.toInt ∧ v3.toInt ≤ (7 : Int)) := p3
      clear p3
      refine ⟨v3, rfl, ?_⟩
      refine (s_X8_putSkill w_m2 hb1).to ?_
      rintro _ m4 ⟨w_m4, g5, rfl⟩
      have f_m4 : Fx (RS (ρ1 :: [2])) m0 m4 := f_m2.tr g5 (RS_cons rfl)
      refine ⟨rfl, ?_⟩
      refine ⟨?_, ?_⟩
      · intro c6
        have k7 := y_eqr (n := 0) rfl c6
        exact ih.2 _ _ _ w_m4 f_m4 (by show 0 * (x5).toInt + 1 < _; omega)
      · intro c8
        have k9 := y_ner (n := 0) rfl c8
        refine ⟨?_, ?_⟩
        · exact vpi (by omega) (by omega)
        · refine ⟨?_, ?_⟩
          · exact vpi (by omega) (by omega)
          · have w10 : WT (uI m4 (b1 + 3) x2.toNatClampNeg ((m4.1 (b1 + 3) x2.toNatClampNeg) + s0)) := w_m4.s hb1.2 (by decide)
            have f10 : Fx (RS (ρ1 :: [2])) m0 (uI m4 (b1 + 3) x2.toNatClampNeg ((m4.1 (b1 + 3) x2.toNatClampNeg) + s0)) := f_m4.i (RS_hd hb1.2 (by decide))
            exact ih.2 _ _ _ w10 f10 (by show 0 * (x5).toInt + 1 < _; omega)
    · intro m x5 x8 w f  hn
      refine g_X1_teach_117  ?_
      refine ⟨?_, ?_⟩
      · intro c1
        have k2 := y_ner (n := -1) rfl c1
        exact ⟨w, f, rfl⟩
      · intro c3
        have k4 := y_eqr (n := -1) rfl c3
        have w5 : WT (uI m 3 6 x5) := w.n rfl
        have f5 : Fx (RS (ρ1 :: [2])) m0 (uI m 3 6 x5) := f.i (RS_tl (l1 := [2]) rfl _ _ rfl)
        have w6 : WT (uI (uI m 3 6 x5) 3 7 x8) := w5.n rfl
        have f6 : Fx (RS (ρ1 :: [2])) m0 (uI (uI m 3 6 x5) 3 7 x8) := f5.i (RS_tl (l1 := [2]) rfl _ _ rfl)
        exact ⟨w6, f6, rfl⟩
set_option maxHeartbeats 4000000 in
theorem s_X1_teach {ad : Nat → Nat} {d : Nat} {m : Wm} {b1 ρ1 : Nat} {x2 x3 x4 : Int32} (w : WT m) (hb1 : SS b1 ρ1) (i1 : (0 : Int) ≤ x2.toInt) (i2 : x2.toInt ≤ (7 : Int)) (i3 : (0 : Int) ≤ x3.toInt) (i4 : x3.toInt ≤ (7 : Int)) : Ct ad μX1_teach (d + 2) [.ref (ad 3), .ref (ad b1), .int x2, .int x3, .int x4] m (fun r m' => WT m' ∧ Fx (RS (ρ1 :: [2])) m m' ∧ r = none) := by
  have f : Fx (RS (ρ1 :: [2])) m m := Fx.rf
  refine v_X1_teach hb1.1 ?_
  have r1 := w.at (a := 3) (k := 4) rfl
  refine (s_X8_furthestArt w hb1 (by show (0 : Int) ≤ (x2).toInt; omega) (by show (x2).toInt ≤ (7 : Int); omega) (by show (0 : Int) ≤ (x3).toInt; omega) (by show (x3).toInt ≤ (7 : Int); omega) (by show (0 : Int) ≤ ((m.1 3 4)).toInt; omega) (by show ((m.1 3 4)).toInt ≤ (4 : Int); omega)).to ?_
  rintro _ m1 ⟨w_m1, g2, v2, rfl⟩
  have f_m1 : Fx (RS (ρ1 :: [2])) m m1 := f.tr g2 (RS_tl rfl)
  refine ⟨v2, rfl, ?_⟩
  refine ⟨?_, ?_⟩
  · intro c3
    have k4 := y_ner (n := -1) rfl c3
    refine (s_X8_skillOf w_m1 hb1).to ?_
    rintro _ m3 ⟨w_m3, g5, v4, rfl⟩
    have f_m3 : Fx (RS (ρ1 :: [2])) m m3 := f_m1.tr g5 (RS_tl rfl)
    refine ⟨v4, rfl, ?_⟩
    refine (s_X8_skillOf w_m3 hb1).to ?_
    rintro _ m5 ⟨w_m5, g6, v6, rfl⟩
    have f_m5 : Fx (RS (ρ1 :: [2])) m m5 := f_m3.tr g6 (RS_tl rfl)
    refine ⟨v6, rfl, ?_⟩
    refine (s_X1_isIll w_m5).to ?_
    rintro _ m7 ⟨w_m7, g7, v8, rfl, p8, p9⟩
    have f_m7 : Fx (RS (ρ1 :: [2])) m m7 := f_m5.tr g7 (RS_tl rfl)
    refine ⟨v8, rfl, ?_⟩
    refine ⟨?_, ?_⟩
    · intro c10
      have k11 := y_eqr (n := 0) rfl c10
      exact (l_X1_teach (m0 := m) hb1 1000000).1 _ _ _ _ _ _ _ _ w_m7 f_m7 (by show (0 : Int) ≤ (x2).toInt; omega) (by show (x2).toInt ≤ (7 : Int); omega) (by show 0 * (x2).toInt + 2 < _; omega)
    · intro c12
      have k13 := y_ner (n := 0) rfl c12
      exact (l_X1_teach (m0 := m) hb1 1000000).1 _ _ _ _ _ _ _ _ w_m7 f_m7 (by show (0 : Int) ≤ (x2).toInt; omega) (by show (x2).toInt ≤ (7 : Int); omega) (by show 0 * (x2).toInt + 2 < _; omega)
  · intro c14
    have k15 := y_eqr (n := -1) rfl c14
    exact ⟨w_m1, f_m1, rfl⟩
set_option maxHeartbeats 4000000 in
theorem l_X1_settle {ad : Nat → Nat} {d : Nat} {m0 : Wm} {b1 ρ1 : Nat} (hb1 : SS b1 ρ1) : ∀ n : Nat, (∀ (m : Wm) (x2 x3 x4 x5 : Int32), WT m → Fx (RS (ρ1 :: [2])) m0 m → (0 : Int) ≤ x2.toInt → x2.toInt ≤ (7 : Int) → (0 : Int) ≤ x3.toInt → x3.toInt ≤ (7 : Int) → 0 * x5.toInt + 4 < (n : Int) → AW ad E0 μX1_settle (d + 3) (fun r m' => WT m' ∧ Fx (RS (ρ1 :: [2])) m0 m' ∧ r = none) 23 [(0, .ref (ad 3)), (1, .ref (ad b1)), (2, .int x2), (3, .int x3), (4, .int x4), (5, .int x5)] [] m) ∧ (∀ (m : Wm) (x5 x6 s0 : Int32), WT m → Fx (RS (ρ1 :: [2])) m0 m → (0 : Int) ≤ x6.toInt → x6.toInt ≤ (7 : Int) → (0 : Int) ≤ s0.toInt → s0.toInt ≤ (7 : Int) → 0 * x5.toInt + 3 < (n : Int) → AW ad E0 μX1_settle (d + 3) (fun r m' => WT m' ∧ Fx (RS (ρ1 :: [2])) m0 m' ∧ r = none) 52 [(0, .ref (ad 3)), (1, .ref (ad b1)), (5, .int x5), (6, .int x6)] [.int s0] m) ∧ (∀ (m : Wm) (x5 x6 x7 : Int32), WT m → Fx (RS (ρ1 :: [2])) m0 m → (0 : Int) ≤ x6.toInt → x6.toInt ≤ (7 : Int) → (0 : Int) ≤ x7.toInt → x7.toInt ≤ (7 : Int) → 0 * x5.toInt + 2 < (n : Int) → AW ad E0 μX1_settle (d + 3) (fun r m' => WT m' ∧ Fx (RS (ρ1 :: [2])) m0 m' ∧ r = none) 84 [(0, .ref (ad 3)), (1, .ref (ad b1)), (5, .int x5), (6, .int x6), (7, .int x7)] [] m) ∧ (∀ (m : Wm) (x5 x6 x7 : Int32), WT m → Fx (RS (ρ1 :: [2])) m0 m → (0 : Int) ≤ x6.toInt → x6.toInt ≤ (7 : Int) → (0 : Int) ≤ x7.toInt → x7.toInt ≤ (7 : Int) → 0 * x5.toInt + 1 < (n : Int) → AW ad E0 μX1_settle (d + 3) (fun r m' => WT m' ∧ Fx (RS (ρ1 :: [2])) m0 m' ∧ r = none) 104 [(0, .ref (ad 3)), (1, .ref (ad b1)), (5, .int x5), (6, .int x6), (7, .int x7)] [] m) := by
  intro n
  induction n with
  | zero =>
    refine ⟨?_, ?_, ?_, ?_⟩ <;> intros <;> exfalso <;> omega
  | succ n ih =>
    refine ⟨?_, ?_, ?_, ?_⟩
    · intro m x2 x3 x4 x5 w f j1 j2 j3 j4 hn
      refine g_X1_settle_23 hb1.1 ?_
      refine ⟨?_, ?_⟩
      · intro c1
        have k2 := y_ner (n := 2) rfl c1
        refine ⟨?_, ?_⟩
        · intro c3
          have k4 := y_ner (n := 0) rfl c3
          refine ⟨?_, ?_⟩
          · intro c5
            have k6 := y_ner (n := 0) rfl c5
            exact ih.2.1 _ _ _ _ w f (by show (0 : Int) ≤ (x3).toInt; omega) (by show (x3).toInt ≤ (7 : Int); omega) (by show (0 : Int) ≤ (x2).toInt; omega) (by show (x2).toInt ≤ (7 : Int); omega) (by show 0 * (x5).toInt + 3 < _; omega)
          · intro c7
            have k8 := y_eqr (n := 0) rfl c7
            exact ih.2.1 _ _ _ _ w f (by show (0 : Int) ≤ (x3).toInt; omega) (by show (x3).toInt ≤ (7 : Int); omega) (by show (0 : Int) ≤ (x3).toInt; omega) (by show (x3).toInt ≤ (7 : Int); omega) (by show 0 * (x5).toInt + 3 < _; omega)
        · intro c9
          have k10 := y_eqr (n := 0) rfl c9
          refine ⟨?_, ?_⟩
          · intro c11
            have k12 := y_ner (n := 0) rfl c11
            exact ih.2.1 _ _ _ _ w f (by show (0 : Int) ≤ (x2).toInt; omega) (by show (x2).toInt ≤ (7 : Int); omega) (by show (0 : Int) ≤ (x2).toInt; omega) (by show (x2).toInt ≤ (7 : Int); omega) (by show 0 * (x5).toInt + 3 < _; omega)
          · intro c13
            have k14 := y_eqr (n := 0) rfl c13
            exact ih.2.1 _ _ _ _ w f (by show (0 : Int) ≤ (x2).toInt; omega) (by show (x2).toInt ≤ (7 : Int); omega) (by show (0 : Int) ≤ (x3).toInt; omega) (by show (x3).toInt ≤ (7 : Int); omega) (by show 0 * (x5).toInt + 3 < _; omega)
      · intro c15
        have k16 := y_eqr (n := 2) rfl c15
        exact ⟨w, f, rfl⟩
    · intro m x5 x6 s0 w f j1 j2 j3 j4 hn
      refine g_X1_settle_52 hb1.1 ?_
      refine ⟨?_, ?_⟩
      · intro c1
        have k2 := y_eqr (n := 0) rfl c1
        refine (s_X1_teach w hb1 (by show (0 : Int) ≤ (x6).toInt; omega) (by show (x6).toInt ≤ (7 : Int); omega) (by show (0 : Int) ≤ (s0).toInt; omega) (by show (s0).toInt ≤ (7 : Int); omega)).to ?_
        rintro _ m1 ⟨w_m1, g3, rfl⟩
        have f_m1 : Fx (RS (ρ1 :: [2])) m0 m1 := f.tr g3 (RS_cons rfl)
        refine ⟨rfl, ?_⟩
        exact ih.2.2.1 _ _ _ _ w_m1 f_m1 (by show (0 : Int) ≤ (x6).toInt; omega) (by show (x6).toInt ≤ (7 : Int); omega) (by show (0 : Int) ≤ (s0).toInt; omega) (by show (s0).toInt ≤ (7 : Int); omega) (by show 0 * (x5).toInt + 2 < _; omega)
      · intro c4
        have k5 := y_ner (n := 0) rfl c4
        refine ⟨?_, ?_⟩
        · intro c6
          have k7 := y_ner (n := 2) rfl c6
          exact ih.2.2.1 _ _ _ _ w f (by show (0 : Int) ≤ (x6).toInt; omega) (by show (x6).toInt ≤ (7 : Int); omega) (by show (0 : Int) ≤ (s0).toInt; omega) (by show (s0).toInt ≤ (7 : Int); omega) (by show 0 * (x5).toInt + 2 < _; omega)
        · intro c8
          have k9 := y_eqr (n := 2) rfl c8
          refine (s_X1_teach w hb1 (by show (0 : Int) ≤ (x6).toInt; omega) (by show (x6).toInt ≤ (7 : Int); omega) (by show (0 : Int) ≤ (s0).toInt; omega) (by show (s0).toInt ≤ (7 : Int); omega)).to ?_
          rintro _ m2 ⟨w_m2, g10, rfl⟩
          have f_m2 : Fx (RS (ρ1 :: [2])) m0 m2 := f.tr g10 (RS_cons rfl)
          refine ⟨rfl, ?_⟩
          exact ih.2.2.1 _ _ _ _ w_m2 f_m2 (by show (0 : Int) ≤ (x6).toInt; omega) (by show (x6).toInt ≤ (7 : Int); omega) (by show (0 : Int) ≤ (s0).toInt; omega) (by show (s0).toInt ≤ (7 : Int); omega) (by show 0 * (x5).toInt + 2 < _; omega)
    · intro m x5 x6 x7 w f j1 j2 j3 j4 hn
      refine g_X1_settle_84 hb1.1 ?_
      refine ⟨?_, ?_⟩
      · intro c1
        have k2 := y_eqr (n := 1) rfl c1
        exact ih.2.2.2 _ _ _ _ w f (by show (0 : Int) ≤ (x6).toInt; omega) (by show (x6).toInt ≤ (7 : Int); omega) (by show (0 : Int) ≤ (x7).toInt; omega) (by show (x7).toInt ≤ (7 : Int); omega) (by show 0 * (x5).toInt + 1 < _; omega)
      · intro c3
        have k4 := y_ner (n := 1) rfl c3
        refine ⟨?_, ?_⟩
        · intro c5
          have k6 := y_ner (n := 2) rfl c5
          exact ⟨w, f, rfl⟩
        · intro c7
          have k8 := y_eqr (n := 2) rfl c7
          exact ih.2.2.2 _ _ _ _ w f (by show (0 : Int) ≤ (x6).toInt; omega) (by show (x6).toInt ≤ (7 : Int); omega) (by show (0 : Int) ≤ (x7).toInt; omega) (by show (x7).toInt ≤ (7 : Int); omega) (by show 0 * (x5).toInt + 1 < _; omega)
    · intro m x5 x6 x7 w f j1 j2 j3 j4 hn
      refine g_X1_settle_104 hb1.1 ?_
      refine (s_X1_teach w hb1 (by show (0 : Int) ≤ (x7).toInt; omega) (by show (x7).toInt ≤ (7 : Int); omega) (by show (0 : Int) ≤ (x6).toInt; omega) (by show (x6).toInt ≤ (7 : Int); omega)).to ?_
      rintro _ m1 ⟨w_m1, g1, rfl⟩
      have f_m1 : Fx (RS (ρ1 :: [2])) m0 m1 := f.tr g1 (RS_cons rfl)
      refine ⟨rfl, ?_⟩
      exact ⟨w_m1, f_m1, rfl⟩
set_option maxHeartbeats 4000000 in
theorem s_X1_settle {ad : Nat → Nat} {d : Nat} {m : Wm} {b1 ρ1 : Nat} {x2 x3 x4 x5 : Int32} (w : WT m) (hb1 : SS b1 ρ1) (i1 : (0 : Int) ≤ x2.toInt) (i2 : x2.toInt ≤ (7 : Int)) (i3 : (0 : Int) ≤ x3.toInt) (i4 : x3.toInt ≤ (7 : Int)) : Ct ad μX1_settle (d + 3) [.ref (ad 3), .ref (ad b1), .int x2, .int x3, .int x4, .int x5] m (fun r m' => WT m' ∧ Fx (RS (ρ1 :: [2])) m m' ∧ r = none) := by
  have f : Fx (RS (ρ1 :: [2])) m m := Fx.rf
  refine v_X1_settle hb1.1 ?_
  refine ⟨?_, ?_⟩
  · intro c1
    have k2 := y_eqr (n := 0) rfl c1
    have w3 : WT (uI m 3 6 (-1 : Int32)) := w.n rfl
    have f3 : Fx (RS (ρ1 :: [2])) m (uI m 3 6 (-1 : Int32)) := f.i (RS_tl (l1 := [2]) rfl _ _ rfl)
    have w4 : WT (uI (uI m 3 6 (-1 : Int32)) 3 7 (0 : Int32)) := w3.n rfl
    have f4 : Fx (RS (ρ1 :: [2])) m (uI (uI m 3 6 (-1 : Int32)) 3 7 (0 : Int32)) := f3.i (RS_tl (l1 := [2]) rfl _ _ rfl)
    exact (l_X1_settle (m0 := m) hb1 1000000).1 _ _ _ _ _ w4 f4 (by show (0 : Int) ≤ (x2).toInt; omega) (by show (x2).toInt ≤ (7 : Int); omega) (by show (0 : Int) ≤ (x3).toInt; omega) (by show (x3).toInt ≤ (7 : Int); omega) (by show 0 * (x5).toInt + 4 < _; omega)
  · intro c5
    have k6 := y_ner (n := 0) rfl c5
    have w7 : WT (uI m 3 6 (-1 : Int32)) := w.n rfl
    have f7 : Fx (RS (ρ1 :: [2])) m (uI m 3 6 (-1 : Int32)) := f.i (RS_tl (l1 := [2]) rfl _ _ rfl)
    have w8 : WT (uI (uI m 3 6 (-1 : Int32)) 3 7 (0 : Int32)) := w7.n rfl
    have f8 : Fx (RS (ρ1 :: [2])) m (uI (uI m 3 6 (-1 : Int32)) 3 7 (0 : Int32)) := f7.i (RS_tl (l1 := [2]) rfl _ _ rfl)
    refine (s_X1_givePoints w8 hb1 (by show (0 : Int) ≤ (x2).toInt; omega) (by show (x2).toInt ≤ (7 : Int); omega) (by show (0 : Int) ≤ (x3).toInt; omega) (by show (x3).toInt ≤ (7 : Int); omega)).to ?_
    rintro _ m1 ⟨w_m1, g9, rfl⟩
    have f_m1 : Fx (RS (ρ1 :: [2])) m m1 := f8.tr g9 (RS_cons rfl)
    refine ⟨rfl, ?_⟩
    exact (l_X1_settle (m0 := m) hb1 1000000).1 _ _ _ _ _ w_m1 f_m1 (by show (0 : Int) ≤ (x2).toInt; omega) (by show (x2).toInt ≤ (7 : Int); omega) (by show (0 : Int) ≤ (x3).toInt; omega) (by show (x3).toInt ≤ (7 : Int); omega) (by show 0 * (x5).toInt + 4 < _; omega)
set_option maxHeartbeats 4000000 in
theorem l_X2_save {ad : Nat → Nat} {d : Nat} {m0 : Wm}  : ∀ n : Nat, (∀ (m : Wm) (s0 : Int32), WT m → Fx (RS [6, 53]) m0 m → (0 : Int) ≤ s0.toInt → s0.toInt ≤ (19 : Int) → 0 * s0.toInt < (n : Int) → AW ad E0 μX2_save (d + 2) (fun r m' => WT m' ∧ Fx (RS [6, 53]) m0 m' ∧ r = none) 22 [(0, .ref (ad 31)), (1, .ref (ad 21))] [.int s0, .ref (ad 31)] m) := by
  intro n
  induction n with
  | zero =>
    intros
    exfalso
    omega
  | succ n ih =>
    intro m s0 w f j1 j2 hn
    refine g_X2_save_22 St_21 ?_
    refine ⟨?_, ?_⟩
    · show vp_in s0 20
      exact vpi (by omega) (by omega)
    · obtain ⟨r1, e1, hr1⟩ := w.ring (x := s0) (by omega) (by omega)
      refine ⟨r1, e1, hr1.1, ?_⟩
      have w3 : WT (uI m 31 2 s0) := w.t rfl (by show (0 : Int) ≤ (s0).toInt; omega) (by show (s0).toInt ≤ 19; omega)
      have f3 : Fx (RS [6, 53]) m0 (uI m 31 2 s0) := f.i rfl
      refine (s_X8_copy w3 hr1 SS_21).to ?_
      rintro _ m2 ⟨w_m2, g4, rfl⟩
      have f_m2 : Fx (RS [6, 53]) m0 m2 := f3.tr g4 (RS_sub rfl)
      refine ⟨rfl, ?_⟩
      have r6 := w_m2.at (a := 31) (k := 1) rfl
      have t7 := ti_addc (x := (m2.1 31 1)) (y := (1 : Int32)) (c := 1) rfl (by omega)
      have t8 := ti_ltv (a := (20 : Int32)) (b := ((m2.1 31 1) + (1 : Int32))) (c := (20 : Int32)) (d := ((m2.1 31 1) + (1 : Int32))) (A := (20)) (B := ((m2.1 31 1) + (1 : Int32)).toInt) (C := (20)) (D := ((m2.1 31 1) + (1 : Int32)).toInt) rfl rfl rfl rfl
      have w5 : WT (uI m2 31 1 (if (20 : Int32) < ((m2.1 31 1) + (1 : Int32)) then (20 : Int32) else ((m2.1 31 1) + (1 : Int32)))) := w_m2.t rfl (by show (0 : Int) ≤ ((if (20 : Int32) < ((m2.1 31 1) + (1 : Int32)) then (20 : Int32) else ((m2.1 31 1) + (1 : Int32)))).toInt; omega) (by show ((if (20 : Int32) < ((m2.1 31 1) + (1 : Int32)) then (20 : Int32) else ((m2.1 31 1) + (1 : Int32)))).toInt ≤ 20; omega)
      have f5 : Fx (RS [6, 53]) m0 (uI m2 31 1 (if (20 : Int32) < ((m2.1 31 1) + (1 : Int32)) then (20 : Int32) else ((m2.1 31 1) + (1 : Int32)))) := f_m2.i rfl
      exact ⟨w5, f5, rfl⟩
set_option maxHeartbeats 4000000 in
theorem s_X2_save {ad : Nat → Nat} {d : Nat} {m : Wm} (w : WT m) : Ct ad μX2_save (d + 2) [.ref (ad 31), .ref (ad 21)] m (fun r m' => WT m' ∧ Fx (RS [6, 53]) m m' ∧ r = none) := by
  have f : Fx (RS [6, 53]) m m := Fx.rf
  refine v_X2_save St_21 ?_
  refine ⟨?_, ?_⟩
  · intro c1
    have r2 := w.at (a := 31) (k := 2) rfl
    have t3 := ti_addc (x := (m.1 31 2)) (y := (1 : Int32)) (c := 1) rfl (by omega)
    have k4 := y_lel (n := 20) rfl c1
    exact (l_X2_save (m0 := m) 1000000) _ _ w f (by show (0 : Int) ≤ (0 : Int); omega) (by show (0 : Int) ≤ (19 : Int); omega) (by show 0 * (0 : Int) < _; omega)
  · intro c5
    have r6 := w.at (a := 31) (k := 2) rfl
    have t7 := ti_addc (x := (m.1 31 2)) (y := (1 : Int32)) (c := 1) rfl (by omega)
    have k8 := y_nlel (n := 20) rfl c5
    exact (l_X2_save (m0 := m) 1000000) _ _ w f (by show (0 : Int) ≤ (((m.1 31 2) + (1 : Int32))).toInt; omega) (by show (((m.1 31 2) + (1 : Int32))).toInt ≤ (19 : Int); omega) (by show 0 * (((m.1 31 2) + (1 : Int32))).toInt < _; omega)
set_option maxHeartbeats 4000000 in
theorem l_X2_takeBack {ad : Nat → Nat} {d : Nat} {m0 : Wm}  : ∀ n : Nat, (∀ (m : Wm) (s0 : Int32), WT m → Fx (RS [4, 53]) m0 m → (0 : Int) ≤ s0.toInt → s0.toInt ≤ (19 : Int) → (1 ≤ (m.1 31 1).toInt) → 0 * s0.toInt < (n : Int) → AW ad E0 μX2_takeBack (d + 2) (fun r m' => WT m' ∧ Fx (RS [4, 53]) m0 m' ∧ ∃ v : Int32, r = some (.int v) ∧ (0 : Int) ≤ v.toInt ∧ v.toInt ≤ 1) 41 [(0, .ref (ad 31))] [.int s0, .ref (ad 31)] m) := by
  intro n
  induction n with
  | zero =>
    intros
    exfalso
    omega
  | succ n ih =>
    intro m s0 w f j1 j2 j3 hn
    refine g_X2_takeBack_41  ?_
    have w1 : WT (uI m 31 2 s0) := w.t rfl (by show (0 : Int) ≤ (s0).toInt; omega) (by show (s0).toInt ≤ 19; omega)
    have f1 : Fx (RS [4, 53]) m0 (uI m 31 2 s0) := f.i rfl
    have r3 := w.at (a := 31) (k := 1) rfl
    have t4 := ti_subc (x := (m.1 31 1)) (y := (1 : Int32)) (c := 1) rfl (by omega)
    have w2 : WT (uI (uI m 31 2 s0) 31 1 (((uI m 31 2 s0).1 31 1) - (1 : Int32))) := w1.t rfl (by show (0 : Int) ≤ (((m.1 31 1) - (1 : Int32))).toInt; omega) (by show (((m.1 31 1) - (1 : Int32))).toInt ≤ 20; omega)
    have f2 : Fx (RS [4, 53]) m0 (uI (uI m 31 2 s0) 31 1 (((uI m 31 2 s0).1 31 1) - (1 : Int32))) := f1.i rfl
    exact ⟨w2, f2, _, rfl, (by show (0 : Int) ≤ (1 : Int); omega), (by show (1 : Int) ≤ (1 : Int); omega)⟩
set_option maxHeartbeats 4000000 in
theorem s_X2_takeBack {ad : Nat → Nat} {d : Nat} {m : Wm} (w : WT m) : Ct ad μX2_takeBack (d + 2) [.ref (ad 31), .ref (ad 21)] m (fun r m' => WT m' ∧ Fx (RS [4, 53]) m m' ∧ ∃ v : Int32, r = some (.int v) ∧ (0 : Int) ≤ v.toInt ∧ v.toInt ≤ 1) := by
  have f : Fx (RS [4, 53]) m m := Fx.rf
  refine v_X2_takeBack St_21 ?_
  refine ⟨?_, ?_⟩
  · intro c1
    have r2 := w.at (a := 31) (k := 1) rfl
    have k3 := y_ner (n := 0) rfl c1
    refine ⟨?_, ?_⟩
    · have r4 := w.at (a := 31) (k := 2) rfl
      exact vpi (by omega) (by omega)
    · have r7 := w.at (a := 31) (k := 2) rfl
      obtain ⟨r1, e5, hr1⟩ := w.ring (x := (m.1 31 2)) (by omega) (by omega)
      refine ⟨r1, e5, hr1.1, ?_⟩
      refine (s_X8_copy w SS_21 hr1).to ?_
      rintro _ m2 ⟨w_m2, g8, rfl⟩
      have f_m2 : Fx (RS [4, 53]) m m2 := f.tr g8 (RS_sub rfl)
      have e9 : (m2.1 31 1).toInt = ((m.1 31 1)).toInt := congrArg _ (g8.at (a := 31) (k := 1) (by decide))
      have e10 : (m2.1 31 2).toInt = ((m.1 31 2)).toInt := congrArg _ (g8.at (a := 31) (k := 2) (by decide))
      refine ⟨rfl, ?_⟩
      refine ⟨?_, ?_⟩
      · intro c11
        have r12 := w_m2.at (a := 31) (k := 2) rfl
        have k13 := y_ler (n := 0) rfl c11
        have r14 := w_m2.at (a := 31) (k := 1) rfl
        exact (l_X2_takeBack (m0 := m) 1000000) _ _ w_m2 f_m2 (by show (0 : Int) ≤ (19 : Int); omega) (by show (19 : Int) ≤ (19 : Int); omega) (by show 1 ≤ ((m2.1 31 1)).toInt; omega) (by show 0 * (19 : Int) < _; omega)
      · intro c15
        have r16 := w_m2.at (a := 31) (k := 2) rfl
        have k17 := y_nler (n := 0) rfl c15
        have t18 := ti_subc (x := (m2.1 31 2)) (y := (1 : Int32)) (c := 1) rfl (by omega)
        have r19 := w_m2.at (a := 31) (k := 1) rfl
        exact (l_X2_takeBack (m0 := m) 1000000) _ _ w_m2 f_m2 (by show (0 : Int) ≤ (((m2.1 31 2) - (1 : Int32))).toInt; omega) (by show (((m2.1 31 2) - (1 : Int32))).toInt ≤ (19 : Int); omega) (by show 1 ≤ ((m2.1 31 1)).toInt; omega) (by show 0 * (((m2.1 31 2) - (1 : Int32))).toInt < _; omega)
  · intro c20
    have r21 := w.at (a := 31) (k := 1) rfl
    have k22 := y_eqr (n := 0) rfl c20
    exact ⟨w, f, _, rfl, (by show (0 : Int) ≤ (0 : Int); omega), (by show (0 : Int) ≤ (1 : Int); omega)⟩
end
section
/-! SAFETY OF THE CLASS, BY PROGRAM (X3_clear .. X3_fillEachWithEach) -/
set_option maxHeartbeats 4000000 in
theorem s_X3_clear_134 {ad : Nat → Nat} {d : Nat} {m : Wm} (w : WT m) : Ct ad μX3_clear d [.ref (ad 134)] m (fun r m' => WT m' ∧ Fx (RS [7]) m m' ∧ r = none ∧ ((m'.1 134 5).toInt = 0)) := by
  have f : Fx (RS [7]) m m := Fx.rf
  refine v_X3_clear Pl_134 ?_
  have w1 : WT (uI m 134 5 (0 : Int32)) := w.t rfl (by show (0 : Int) ≤ (0 : Int); omega) (by show (0 : Int) ≤ 13; omega)
  have f1 : Fx (RS [7]) m (uI m 134 5 (0 : Int32)) := f.i rfl
  have w2 : WT (uI (uI m 134 5 (0 : Int32)) 134 6 (0 : Int32)) := w1.t rfl (by show (0 : Int) ≤ (0 : Int); omega) (by show (0 : Int) ≤ 48; omega)
  have f2 : Fx (RS [7]) m (uI (uI m 134 5 (0 : Int32)) 134 6 (0 : Int32)) := f1.i rfl
  exact ⟨w2, f2, rfl, (by show (0 : Int) = 0; omega)⟩
set_option maxHeartbeats 4000000 in
theorem s_X3_clear_140 {ad : Nat → Nat} {d : Nat} {m : Wm} (w : WT m) : Ct ad μX3_clear d [.ref (ad 140)] m (fun r m' => WT m' ∧ Fx (RS [7]) m m' ∧ r = none ∧ ((m'.1 140 5).toInt = 0)) := by
  have f : Fx (RS [7]) m m := Fx.rf
  refine v_X3_clear Pl_140 ?_
  have w1 : WT (uI m 140 5 (0 : Int32)) := w.t rfl (by show (0 : Int) ≤ (0 : Int); omega) (by show (0 : Int) ≤ 13; omega)
  have f1 : Fx (RS [7]) m (uI m 140 5 (0 : Int32)) := f.i rfl
  have w2 : WT (uI (uI m 140 5 (0 : Int32)) 140 6 (0 : Int32)) := w1.t rfl (by show (0 : Int) ≤ (0 : Int); omega) (by show (0 : Int) ≤ 48; omega)
  have f2 : Fx (RS [7]) m (uI (uI m 140 5 (0 : Int32)) 140 6 (0 : Int32)) := f1.i rfl
  exact ⟨w2, f2, rfl, (by show (0 : Int) = 0; omega)⟩
theorem s_X3_clear {ad : Nat → Nat} {d : Nat} {m : Wm} {b0 : Nat} (w : WT m) (hb0 : b0 = 134 ∨ b0 = 140) : Ct ad μX3_clear d [.ref (ad b0)] m (fun r m' => WT m' ∧ Fx (RS [7]) m m' ∧ r = none ∧ ((m'.1 b0 5).toInt = 0)) := by
  rcases hb0 with rfl | rfl
  · exact s_X3_clear_134 w
  · exact s_X3_clear_140 w
set_option maxHeartbeats 4000000 in
theorem s_X3_begin_134 {ad : Nat → Nat} {d : Nat} {m : Wm} {x1 : Int32} (w : WT m) : Ct ad μX3_begin d [.ref (ad 134), .int x1] m (fun r m' => WT m' ∧ Fx (RS []) m m' ∧ ∃ v : Int32, r = some (.int v) ∧ (0 : Int) ≤ v.toInt ∧ v.toInt ≤ 48) := by
  have f : Fx (RS []) m m := Fx.rf
  refine v_X3_begin Pl_134 ?_
  refine ⟨?_, ?_⟩
  · intro c1
    have k2 := y_ltr (n := 0) rfl c1
    have r3 := w.at (a := 134) (k := 6) rfl
    exact ⟨w, f, _, rfl, (by show (0 : Int) ≤ ((m.1 134 6)).toInt; omega), (by show ((m.1 134 6)).toInt ≤ (48 : Int); omega)⟩
  · intro c4
    have k5 := y_nltr (n := 0) rfl c4
    refine ⟨?_, ?_⟩
    · intro c6
      have r7 := w.at (a := 134) (k := 5) rfl
      have k8 := z_le c6
      have r9 := w.at (a := 134) (k := 6) rfl
      exact ⟨w, f, _, rfl, (by show (0 : Int) ≤ ((m.1 134 6)).toInt; omega), (by show ((m.1 134 6)).toInt ≤ (48 : Int); omega)⟩
    · intro c10
      have r11 := w.at (a := 134) (k := 5) rfl
      have k12 := z_nle c10
      refine ⟨?_, ?_⟩
      · exact vpi (by omega) (by omega)
      · have r13 := w.at (a := (134 + 4)) (k := x1.toNatClampNeg) rfl
        exact ⟨w, f, _, rfl, (by show (0 : Int) ≤ ((m.1 (134 + 4) x1.toNatClampNeg)).toInt; omega), (by show ((m.1 (134 + 4) x1.toNatClampNeg)).toInt ≤ (48 : Int); omega)⟩
set_option maxHeartbeats 4000000 in
theorem s_X3_begin_140 {ad : Nat → Nat} {d : Nat} {m : Wm} {x1 : Int32} (w : WT m) : Ct ad μX3_begin d [.ref (ad 140), .int x1] m (fun r m' => WT m' ∧ Fx (RS []) m m' ∧ ∃ v : Int32, r = some (.int v) ∧ (0 : Int) ≤ v.toInt ∧ v.toInt ≤ 48) := by
  have f : Fx (RS []) m m := Fx.rf
  refine v_X3_begin Pl_140 ?_
  refine ⟨?_, ?_⟩
  · intro c1
    have k2 := y_ltr (n := 0) rfl c1
    have r3 := w.at (a := 140) (k := 6) rfl
    exact ⟨w, f, _, rfl, (by show (0 : Int) ≤ ((m.1 140 6)).toInt; omega), (by show ((m.1 140 6)).toInt ≤ (48 : Int); omega)⟩
  · intro c4
    have k5 := y_nltr (n := 0) rfl c4
    refine ⟨?_, ?_⟩
    · intro c6
      have r7 := w.at (a := 140) (k := 5) rfl
      have k8 := z_le c6
      have r9 := w.at (a := 140) (k := 6) rfl
      exact ⟨w, f, _, rfl, (by show (0 : Int) ≤ ((m.1 140 6)).toInt; omega), (by show ((m.1 140 6)).toInt ≤ (48 : Int); omega)⟩
    · intro c10
      have r11 := w.at (a := 140) (k := 5) rfl
      have k12 := z_nle c10
      refine ⟨?_, ?_⟩
      · exact vpi (by omega) (by omega)
      · have r13 := w.at (a := (140 + 4)) (k := x1.toNatClampNeg) rfl
        exact ⟨w, f, _, rfl, (by show (0 : Int) ≤ ((m.1 (140 + 4) x1.toNatClampNeg)).toInt; omega), (by show ((m.1 (140 + 4) x1.toNatClampNeg)).toInt ≤ (48 : Int); omega)⟩
theorem s_X3_begin {ad : Nat → Nat} {d : Nat} {m : Wm} {b0 : Nat} {x1 : Int32} (w : WT m) (hb0 : b0 = 134 ∨ b0 = 140) : Ct ad μX3_begin d [.ref (ad b0), .int x1] m (fun r m' => WT m' ∧ Fx (RS []) m m' ∧ ∃ v : Int32, r = some (.int v) ∧ (0 : Int) ≤ v.toInt ∧ v.toInt ≤ 48) := by
  rcases hb0 with rfl | rfl
  · exact s_X3_begin_134 w
  · exact s_X3_begin_140 w
set_option maxHeartbeats 4000000 in
theorem s_X3_after_134 {ad : Nat → Nat} {d : Nat} {m : Wm} {x1 : Int32} (w : WT m) : Ct ad μX3_after d [.ref (ad 134), .int x1] m (fun r m' => WT m' ∧ Fx (RS []) m m' ∧ ∃ v : Int32, r = some (.int v)) := by
  have f : Fx (RS []) m m := Fx.rf
  refine v_X3_after Pl_134 ?_
  refine ⟨?_, ?_⟩
  · intro c1
    have r2 := w.at (a := 134) (k := 5) rfl
    have k3 := z_le c1
    exact ⟨w, f, _, rfl⟩
  · intro c4
    have r5 := w.at (a := 134) (k := 5) rfl
    have k6 := z_nle c4
    exact ⟨w, f, _, rfl⟩
set_option maxHeartbeats 4000000 in
theorem s_X3_after_140 {ad : Nat → Nat} {d : Nat} {m : Wm} {x1 : Int32} (w : WT m) : Ct ad μX3_after d [.ref (ad 140), .int x1] m (fun r m' => WT m' ∧ Fx (RS []) m m' ∧ ∃ v : Int32, r = some (.int v)) := by
  have f : Fx (RS []) m m := Fx.rf
  refine v_X3_after Pl_140 ?_
  refine ⟨?_, ?_⟩
  · intro c1
    have r2 := w.at (a := 140) (k := 5) rfl
    have k3 := z_le c1
    exact ⟨w, f, _, rfl⟩
  · intro c4
    have r5 := w.at (a := 140) (k := 5) rfl
    have k6 := z_nle c4
    exact ⟨w, f, _, rfl⟩
theorem s_X3_after {ad : Nat → Nat} {d : Nat} {m : Wm} {b0 : Nat} {x1 : Int32} (w : WT m) (hb0 : b0 = 134 ∨ b0 = 140) : Ct ad μX3_after d [.ref (ad b0), .int x1] m (fun r m' => WT m' ∧ Fx (RS []) m m' ∧ ∃ v : Int32, r = some (.int v)) := by
  rcases hb0 with rfl | rfl
  · exact s_X3_after_134 w
  · exact s_X3_after_140 w
set_option maxHeartbeats 4000000 in
theorem l_X3_openRound_134 {ad : Nat → Nat} {d : Nat} {m0 : Wm}  : ∀ n : Nat, (∀ (m : Wm), WT m → Fx (RS [7]) m0 m → ((m.1 134 5).toInt ≤ 12) → ((m.1 134 5).toInt = (m0.1 134 5).toInt) → 0 * (m.1 134 5).toInt < (n : Int) → AW ad E0 μX3_openRound d (fun r m' => WT m' ∧ Fx (RS [7]) m0 m' ∧ r = none ∧ ((m'.1 134 5).toInt = (m0.1 134 5).toInt + 1) ∧ ((m'.1 134 7).toInt = 0)) 22 [(0, .ref (ad 134))] [] m) := by
  intro n
  induction n with
  | zero =>
    intros
    exfalso
    omega
  | succ n ih =>
    intro m  w f j1 j2 hn
    refine g_X3_openRound_22 Pl_134 ?_
    have r2 := w.at (a := 134) (k := 5) rfl
    have t3 := ti_addc (x := (m.1 134 5)) (y := (1 : Int32)) (c := 1) rfl (by omega)
    have w1 : WT (uI m 134 5 ((m.1 134 5) + (1 : Int32))) := w.t rfl (by show (0 : Int) ≤ (((m.1 134 5) + (1 : Int32))).toInt; omega) (by show (((m.1 134 5) + (1 : Int32))).toInt ≤ 13; omega)
    have f1 : Fx (RS [7]) m0 (uI m 134 5 ((m.1 134 5) + (1 : Int32))) := f.i rfl
    have w4 : WT (uI (uI m 134 5 ((m.1 134 5) + (1 : Int32))) 134 8 (0 : Int32)) := w1.n rfl
    have f4 : Fx (RS [7]) m0 (uI (uI m 134 5 ((m.1 134 5) + (1 : Int32))) 134 8 (0 : Int32)) := f1.i rfl
    have w5 : WT (uI (uI (uI m 134 5 ((m.1 134 5) + (1 : Int32))) 134 8 (0 : Int32)) 134 7 (0 : Int32)) := w4.n rfl
    have f5 : Fx (RS [7]) m0 (uI (uI (uI m 134 5 ((m.1 134 5) + (1 : Int32))) 134 8 (0 : Int32)) 134 7 (0 : Int32)) := f4.i rfl
    exact ⟨w5, f5, rfl, (by show (((m.1 134 5) + (1 : Int32))).toInt = (m0.1 134 5).toInt + 1; omega), (by show (0 : Int) = 0; omega)⟩
set_option maxHeartbeats 4000000 in
theorem s_X3_openRound_134 {ad : Nat → Nat} {d : Nat} {m : Wm} (w : WT m) (i1 : (m.1 134 5).toInt ≤ 12) : Ct ad μX3_openRound d [.ref (ad 134)] m (fun r m' => WT m' ∧ Fx (RS [7]) m m' ∧ r = none ∧ ((m'.1 134 5).toInt = (m.1 134 5).toInt + 1) ∧ ((m'.1 134 7).toInt = 0)) := by
  have f : Fx (RS [7]) m m := Fx.rf
  refine v_X3_openRound Pl_134 ?_
  refine ⟨?_, ?_⟩
  · intro c1
    have r2 := w.at (a := 134) (k := 5) rfl
    have k3 := y_lel (n := 12) rfl c1
    exact (l_X3_openRound_134 (m0 := m) 1000000) _ w f (by show ((m.1 134 5)).toInt ≤ 12; omega) (by show ((m.1 134 5)).toInt = (m.1 134 5).toInt; omega) (by show 0 * ((m.1 134 5)).toInt < _; omega)
  · intro c4
    have r5 := w.at (a := 134) (k := 5) rfl
    have k6 := y_nlel (n := 12) rfl c4
    refine ⟨?_, ?_⟩
    · exact vpi (by omega) (by omega)
    · have r8 := w.at (a := 134) (k := 6) rfl
      have w7 : WT (uI m (134 + 4) ((m.1 134 5).toNatClampNeg) (m.1 134 6)) := w.t rfl (by show (0 : Int) ≤ ((m.1 134 6)).toInt; omega) (by show ((m.1 134 6)).toInt ≤ 48; omega)
      have f7 : Fx (RS [7]) m (uI m (134 + 4) ((m.1 134 5).toNatClampNeg) (m.1 134 6)) := f.i rfl
      exact (l_X3_openRound_134 (m0 := m) 1000000) _ w7 f7 (by show ((m.1 134 5)).toInt ≤ 12; omega) (by show ((m.1 134 5)).toInt = (m.1 134 5).toInt; omega) (by show 0 * ((m.1 134 5)).toInt < _; omega)
set_option maxHeartbeats 4000000 in
theorem l_X3_openRound_140 {ad : Nat → Nat} {d : Nat} {m0 : Wm}  : ∀ n : Nat, (∀ (m : Wm), WT m → Fx (RS [7]) m0 m → ((m.1 140 5).toInt ≤ 12) → ((m.1 140 5).toInt = (m0.1 140 5).toInt) → 0 * (m.1 140 5).toInt < (n : Int) → AW ad E0 μX3_openRound d (fun r m' => WT m' ∧ Fx (RS [7]) m0 m' ∧ r = none ∧ ((m'.1 140 5).toInt = (m0.1 140 5).toInt + 1) ∧ ((m'.1 140 7).toInt = 0)) 22 [(0, .ref (ad 140))] [] m) := by
  intro n
  induction n with
  | zero =>
    intros
    exfalso
    omega
  | succ n ih =>
    intro m  w f j1 j2 hn
    refine g_X3_openRound_22 Pl_140 ?_
    have r2 := w.at (a := 140) (k := 5) rfl
    have t3 := ti_addc (x := (m.1 140 5)) (y := (1 : Int32)) (c := 1) rfl (by omega)
    have w1 : WT (uI m 140 5 ((m.1 140 5) + (1 : Int32))) := w.t rfl (by show (0 : Int) ≤ (((m.1 140 5) + (1 : Int32))).toInt; omega) (by show (((m.1 140 5) + (1 : Int32))).toInt ≤ 13; omega)
    have f1 : Fx (RS [7]) m0 (uI m 140 5 ((m.1 140 5) + (1 : Int32))) := f.i rfl
    have w4 : WT (uI (uI m 140 5 ((m.1 140 5) + (1 : Int32))) 140 8 (0 : Int32)) := w1.n rfl
    have f4 : Fx (RS [7]) m0 (uI (uI m 140 5 ((m.1 140 5) + (1 : Int32))) 140 8 (0 : Int32)) := f1.i rfl
    have w5 : WT (uI (uI (uI m 140 5 ((m.1 140 5) + (1 : Int32))) 140 8 (0 : Int32)) 140 7 (0 : Int32)) := w4.n rfl
    have f5 : Fx (RS [7]) m0 (uI (uI (uI m 140 5 ((m.1 140 5) + (1 : Int32))) 140 8 (0 : Int32)) 140 7 (0 : Int32)) := f4.i rfl
    exact ⟨w5, f5, rfl, (by show (((m.1 140 5) + (1 : Int32))).toInt = (m0.1 140 5).toInt + 1; omega), (by show (0 : Int) = 0; omega)⟩
set_option maxHeartbeats 4000000 in
theorem s_X3_openRound_140 {ad : Nat → Nat} {d : Nat} {m : Wm} (w : WT m) (i1 : (m.1 140 5).toInt ≤ 12) : Ct ad μX3_openRound d [.ref (ad 140)] m (fun r m' => WT m' ∧ Fx (RS [7]) m m' ∧ r = none ∧ ((m'.1 140 5).toInt = (m.1 140 5).toInt + 1) ∧ ((m'.1 140 7).toInt = 0)) := by
  have f : Fx (RS [7]) m m := Fx.rf
  refine v_X3_openRound Pl_140 ?_
  refine ⟨?_, ?_⟩
  · intro c1
    have r2 := w.at (a := 140) (k := 5) rfl
    have k3 := y_lel (n := 12) rfl c1
    exact (l_X3_openRound_140 (m0 := m) 1000000) _ w f (by show ((m.1 140 5)).toInt ≤ 12; omega) (by show ((m.1 140 5)).toInt = (m.1 140 5).toInt; omega) (by show 0 * ((m.1 140 5)).toInt < _; omega)
  · intro c4
    have r5 := w.at (a := 140) (k := 5) rfl
    have k6 := y_nlel (n := 12) rfl c4
    refine ⟨?_, ?_⟩
    · exact vpi (by omega) (by omega)
    · have r8 := w.at (a := 140) (k := 6) rfl
      have w7 : WT (uI m (140 + 4) ((m.1 140 5).toNatClampNeg) (m.1 140 6)) := w.t rfl (by show (0 : Int) ≤ ((m.1 140 6)).toInt; omega) (by show ((m.1 140 6)).toInt ≤ 48; omega)
      have f7 : Fx (RS [7]) m (uI m (140 + 4) ((m.1 140 5).toNatClampNeg) (m.1 140 6)) := f.i rfl
      exact (l_X3_openRound_140 (m0 := m) 1000000) _ w7 f7 (by show ((m.1 140 5)).toInt ≤ 12; omega) (by show ((m.1 140 5)).toInt = (m.1 140 5).toInt; omega) (by show 0 * ((m.1 140 5)).toInt < _; omega)
theorem s_X3_openRound {ad : Nat → Nat} {d : Nat} {m : Wm} {b0 : Nat} (w : WT m) (hb0 : b0 = 134 ∨ b0 = 140) (i1 : (m.1 b0 5).toInt ≤ 12) : Ct ad μX3_openRound d [.ref (ad b0)] m (fun r m' => WT m' ∧ Fx (RS [7]) m m' ∧ r = none ∧ ((m'.1 b0 5).toInt = (m.1 b0 5).toInt + 1) ∧ ((m'.1 b0 7).toInt = 0)) := by
  rcases hb0 with rfl | rfl
  · exact s_X3_openRound_134 w i1
  · exact s_X3_openRound_140 w i1
set_option maxHeartbeats 4000000 in
theorem s_X3_addGame_134 {ad : Nat → Nat} {d : Nat} {m : Wm} {x1 x2 x3 : Int32} (w : WT m) (i1 : (0 : Int) ≤ x1.toInt) (i2 : x1.toInt ≤ (7 : Int)) (i3 : (0 : Int) ≤ x2.toInt) (i4 : x2.toInt ≤ (7 : Int)) : Ct ad μX3_addGame d [.ref (ad 134), .int x1, .int x2, .int x3] m (fun r m' => WT m' ∧ Fx (RS [7]) m m' ∧ r = none ∧ ((m'.1 134 5).toInt = (m.1 134 5).toInt)) := by
  have f : Fx (RS [7]) m m := Fx.rf
  refine v_X3_addGame Pl_134 ?_
  refine ⟨?_, ?_⟩
  · intro c1
    have r2 := w.at (a := 134) (k := 6) rfl
    have k3 := y_lel (n := 48) rfl c1
    have r4 := w.at (a := 134) (k := 5) rfl
    exact ⟨w, f, rfl, (by show ((m.1 134 5)).toInt = (m.1 134 5).toInt; omega)⟩
  · intro c5
    have r6 := w.at (a := 134) (k := 6) rfl
    have k7 := y_nlel (n := 48) rfl c5
    refine ⟨?_, ?_⟩
    · exact vpi (by omega) (by omega)
    · refine ⟨?_, ?_⟩
      · show vp_in (m.1 134 6) 48
        exact vpi (by omega) (by omega)
      · refine ⟨?_, ?_⟩
        · show vp_in (m.1 134 6) 48
          exact vpi (by omega) (by omega)
        · have w8 : WT (uI m (134 + 1) ((m.1 134 6).toNatClampNeg) x1) := w.t rfl (by show (0 : Int) ≤ (x1).toInt; omega) (by show (x1).toInt ≤ 7; omega)
          have f8 : Fx (RS [7]) m (uI m (134 + 1) ((m.1 134 6).toNatClampNeg) x1) := f.i rfl
          have w9 : WT (uI (uI m (134 + 1) ((m.1 134 6).toNatClampNeg) x1) (134 + 2) (((uI m (134 + 1) ((m.1 134 6).toNatClampNeg) x1).1 134 6).toNatClampNeg) x2) := w8.t rfl (by show (0 : Int) ≤ (x2).toInt; omega) (by show (x2).toInt ≤ 7; omega)
          have f9 : Fx (RS [7]) m (uI (uI m (134 + 1) ((m.1 134 6).toNatClampNeg) x1) (134 + 2) (((uI m (134 + 1) ((m.1 134 6).toNatClampNeg) x1).1 134 6).toNatClampNeg) x2) := f8.i rfl
          have w10 : WT (uI (uI (uI m (134 + 1) ((m.1 134 6).toNatClampNeg) x1) (134 + 2) (((uI m (134 + 1) ((m.1 134 6).toNatClampNeg) x1).1 134 6).toNatClampNeg) x2) (134 + 3) (((uI (uI m (134 + 1) ((m.1 134 6).toNatClampNeg) x1) (134 + 2) (((uI m (134 + 1) ((m.1 134 6).toNatClampNeg) x1).1 134 6).toNatClampNeg) x2).1 134 6).toNatClampNeg) x3) := w9.n rfl
          have f10 : Fx (RS [7]) m (uI (uI (uI m (134 + 1) ((m.1 134 6).toNatClampNeg) x1) (134 + 2) (((uI m (134 + 1) ((m.1 134 6).toNatClampNeg) x1).1 134 6).toNatClampNeg) x2) (134 + 3) (((uI (uI m (134 + 1) ((m.1 134 6).toNatClampNeg) x1) (134 + 2) (((uI m (134 + 1) ((m.1 134 6).toNatClampNeg) x1).1 134 6).toNatClampNeg) x2).1 134 6).toNatClampNeg) x3) := f9.i rfl
          have t12 := ti_addc (x := (m.1 134 6)) (y := (1 : Int32)) (c := 1) rfl (by omega)
          have w11 : WT (uI (uI (uI (uI m (134 + 1) ((m.1 134 6).toNatClampNeg) x1) (134 + 2) (((uI m (134 + 1) ((m.1 134 6).toNatClampNeg) x1).1 134 6).toNatClampNeg) x2) (134 + 3) (((uI (uI m (134 + 1) ((m.1 134 6).toNatClampNeg) x1) (134 + 2) (((uI m (134 + 1) ((m.1 134 6).toNatClampNeg) x1).1 134 6).toNatClampNeg) x2).1 134 6).toNatClampNeg) x3) 134 6 (((uI (uI (uI m (134 + 1) ((m.1 134 6).toNatClampNeg) x1) (134 + 2) (((uI m (134 + 1) ((m.1 134 6).toNatClampNeg) x1).1 134 6).toNatClampNeg) x2) (134 + 3) (((uI (uI m (134 + 1) ((m.1 134 6).toNatClampNeg) x1) (134 + 2) (((uI m (134 + 1) ((m.1 134 6).toNatClampNeg) x1).1 134 6).toNatClampNeg) x2).1 134 6).toNatClampNeg) x3).1 134 6) + (1 : Int32))) := w10.t rfl (by show (0 : Int) ≤ (((m.1 134 6) + (1 : Int32))).toInt; omega) (by show (((m.1 134 6) + (1 : Int32))).toInt ≤ 48; omega)
          have f11 : Fx (RS [7]) m (uI (uI (uI (uI m (134 + 1) ((m.1 134 6).toNatClampNeg) x1) (134 + 2) (((uI m (134 + 1) ((m.1 134 6).toNatClampNeg) x1).1 134 6).toNatClampNeg) x2) (134 + 3) (((uI (uI m (134 + 1) ((m.1 134 6).toNatClampNeg) x1) (134 + 2) (((uI m (134 + 1) ((m.1 134 6).toNatClampNeg) x1).1 134 6).toNatClampNeg) x2).1 134 6).toNatClampNeg) x3) 134 6 (((uI (uI (uI m (134 + 1) ((m.1 134 6).toNatClampNeg) x1) (134 + 2) (((uI m (134 + 1) ((m.1 134 6).toNatClampNeg) x1).1 134 6).toNatClampNeg) x2) (134 + 3) (((uI (uI m (134 + 1) ((m.1 134 6).toNatClampNeg) x1) (134 + 2) (((uI m (134 + 1) ((m.1 134 6).toNatClampNeg) x1).1 134 6).toNatClampNeg) x2).1 134 6).toNatClampNeg) x3).1 134 6) + (1 : Int32))) := f10.i rfl
          have r13 := w.at (a := 134) (k := 5) rfl
          exact ⟨w11, f11, rfl, (by show ((m.1 134 5)).toInt = (m.1 134 5).toInt; omega)⟩
set_option maxHeartbeats 4000000 in
theorem s_X3_addGame_140 {ad : Nat → Nat} {d : Nat} {m : Wm} {x1 x2 x3 : Int32} (w : WT m) (i1 : (0 : Int) ≤ x1.toInt) (i2 : x1.toInt ≤ (7 : Int)) (i3 : (0 : Int) ≤ x2.toInt) (i4 : x2.toInt ≤ (7 : Int)) : Ct ad μX3_addGame d [.ref (ad 140), .int x1, .int x2, .int x3] m (fun r m' => WT m' ∧ Fx (RS [7]) m m' ∧ r = none ∧ ((m'.1 140 5).toInt = (m.1 140 5).toInt)) := by
  have f : Fx (RS [7]) m m := Fx.rf
  refine v_X3_addGame Pl_140 ?_
  refine ⟨?_, ?_⟩
  · intro c1
    have r2 := w.at (a := 140) (k := 6) rfl
    have k3 := y_lel (n := 48) rfl c1
    have r4 := w.at (a := 140) (k := 5) rfl
    exact ⟨w, f, rfl, (by show ((m.1 140 5)).toInt = (m.1 140 5).toInt; omega)⟩
  · intro c5
    have r6 := w.at (a := 140) (k := 6) rfl
    have k7 := y_nlel (n := 48) rfl c5
    refine ⟨?_, ?_⟩
    · exact vpi (by omega) (by omega)
    · refine ⟨?_, ?_⟩
      · show vp_in (m.1 140 6) 48
        exact vpi (by omega) (by omega)
      · refine ⟨?_, ?_⟩
        · show vp_in (m.1 140 6) 48
          exact vpi (by omega) (by omega)
        · have w8 : WT (uI m (140 + 1) ((m.1 140 6).toNatClampNeg) x1) := w.t rfl (by show (0 : Int) ≤ (x1).toInt; omega) (by show (x1).toInt ≤ 7; omega)
          have f8 : Fx (RS [7]) m (uI m (140 + 1) ((m.1 140 6).toNatClampNeg) x1) := f.i rfl
          have w9 : WT (uI (uI m (140 + 1) ((m.1 140 6).toNatClampNeg) x1) (140 + 2) (((uI m (140 + 1) ((m.1 140 6).toNatClampNeg) x1).1 140 6).toNatClampNeg) x2) := w8.t rfl (by show (0 : Int) ≤ (x2).toInt; omega) (by show (x2).toInt ≤ 7; omega)
          have f9 : Fx (RS [7]) m (uI (uI m (140 + 1) ((m.1 140 6).toNatClampNeg) x1) (140 + 2) (((uI m (140 + 1) ((m.1 140 6).toNatClampNeg) x1).1 140 6).toNatClampNeg) x2) := f8.i rfl
          have w10 : WT (uI (uI (uI m (140 + 1) ((m.1 140 6).toNatClampNeg) x1) (140 + 2) (((uI m (140 + 1) ((m.1 140 6).toNatClampNeg) x1).1 140 6).toNatClampNeg) x2) (140 + 3) (((uI (uI m (140 + 1) ((m.1 140 6).toNatClampNeg) x1) (140 + 2) (((uI m (140 + 1) ((m.1 140 6).toNatClampNeg) x1).1 140 6).toNatClampNeg) x2).1 140 6).toNatClampNeg) x3) := w9.n rfl
          have f10 : Fx (RS [7]) m (uI (uI (uI m (140 + 1) ((m.1 140 6).toNatClampNeg) x1) (140 + 2) (((uI m (140 + 1) ((m.1 140 6).toNatClampNeg) x1).1 140 6).toNatClampNeg) x2) (140 + 3) (((uI (uI m (140 + 1) ((m.1 140 6).toNatClampNeg) x1) (140 + 2) (((uI m (140 + 1) ((m.1 140 6).toNatClampNeg) x1).1 140 6).toNatClampNeg) x2).1 140 6).toNatClampNeg) x3) := f9.i rfl
          have t12 := ti_addc (x := (m.1 140 6)) (y := (1 : Int32)) (c := 1) rfl (by omega)
          have w11 : WT (uI (uI (uI (uI m (140 + 1) ((m.1 140 6).toNatClampNeg) x1) (140 + 2) (((uI m (140 + 1) ((m.1 140 6).toNatClampNeg) x1).1 140 6).toNatClampNeg) x2) (140 + 3) (((uI (uI m (140 + 1) ((m.1 140 6).toNatClampNeg) x1) (140 + 2) (((uI m (140 + 1) ((m.1 140 6).toNatClampNeg) x1).1 140 6).toNatClampNeg) x2).1 140 6).toNatClampNeg) x3) 140 6 (((uI (uI (uI m (140 + 1) ((m.1 140 6).toNatClampNeg) x1) (140 + 2) (((uI m (140 + 1) ((m.1 140 6).toNatClampNeg) x1).1 140 6).toNatClampNeg) x2) (140 + 3) (((uI (uI m (140 + 1) ((m.1 140 6).toNatClampNeg) x1) (140 + 2) (((uI m (140 + 1) ((m.1 140 6).toNatClampNeg) x1).1 140 6).toNatClampNeg) x2).1 140 6).toNatClampNeg) x3).1 140 6) + (1 : Int32))) := w10.t rfl (by show (0 : Int) ≤ (((m.1 140 6) + (1 : Int32))).toInt; omega) (by show (((m.1 140 6) + (1 : Int32))).toInt ≤ 48; omega)
          have f11 : Fx (RS [7]) m (uI (uI (uI (uI m (140 + 1) ((m.1 140 6).toNatClampNeg) x1) (140 + 2) (((uI m (140 + 1) ((m.1 140 6).toNatClampNeg) x1).1 140 6).toNatClampNeg) x2) (140 + 3) (((uI (uI m (140 + 1) ((m.1 140 6).toNatClampNeg) x1) (140 + 2) (((uI m (140 + 1) ((m.1 140 6).toNatClampNeg) x1).1 140 6).toNatClampNeg) x2).1 140 6).toNatClampNeg) x3) 140 6 (((uI (uI (uI m (140 + 1) ((m.1 140 6).toNatClampNeg) x1) (140 + 2) (((uI m (140 + 1) ((m.1 140 6).toNatClampNeg) x1).1 140 6).toNatClampNeg) x2) (140 + 3) (((uI (uI m (140 + 1) ((m.1 140 6).toNatClampNeg) x1) (140 + 2) (((uI m (140 + 1) ((m.1 140 6).toNatClampNeg) x1).1 140 6).toNatClampNeg) x2).1 140 6).toNatClampNeg) x3).1 140 6) + (1 : Int32))) := f10.i rfl
          have r13 := w.at (a := 140) (k := 5) rfl
          exact ⟨w11, f11, rfl, (by show ((m.1 140 5)).toInt = (m.1 140 5).toInt; omega)⟩
theorem s_X3_addGame {ad : Nat → Nat} {d : Nat} {m : Wm} {b0 : Nat} {x1 x2 x3 : Int32} (w : WT m) (hb0 : b0 = 134 ∨ b0 = 140) (i1 : (0 : Int) ≤ x1.toInt) (i2 : x1.toInt ≤ (7 : Int)) (i3 : (0 : Int) ≤ x2.toInt) (i4 : x2.toInt ≤ (7 : Int)) : Ct ad μX3_addGame d [.ref (ad b0), .int x1, .int x2, .int x3] m (fun r m' => WT m' ∧ Fx (RS [7]) m m' ∧ r = none ∧ ((m'.1 b0 5).toInt = (m.1 b0 5).toInt)) := by
  rcases hb0 with rfl | rfl
  · exact s_X3_addGame_134 w i1 i2 i3 i4
  · exact s_X3_addGame_140 w i1 i2 i3 i4
set_option maxHeartbeats 4000000 in
theorem s_X3_takeDash_134 {ad : Nat → Nat} {d : Nat} {m : Wm} {x1 : Int32} (w : WT m) (i1 : (m.1 134 5).toInt ≤ 12) : Ct ad μX3_takeDash d [.ref (ad 134), .int x1] m (fun r m' => WT m' ∧ Fx (RS [7]) m m' ∧ ∃ v : Int32, r = some (.int v) ∧ (0 : Int) ≤ v.toInt ∧ v.toInt ≤ 1 ∧ ((m'.1 134 5).toInt ≤ 12)) := by
  have f : Fx (RS [7]) m m := Fx.rf
  refine v_X3_takeDash Pl_134 ?_
  refine ⟨?_, ?_⟩
  · intro c1
    have k2 := y_eqr (n := 45) rfl c1
    have w3 : WT (uI m 134 7 (3 : Int32)) := w.n rfl
    have f3 : Fx (RS [7]) m (uI m 134 7 (3 : Int32)) := f.i rfl
    have r4 := w.at (a := 134) (k := 5) rfl
    exact ⟨w3, f3, _, rfl, (by show (0 : Int) ≤ (1 : Int); omega), (by show (1 : Int) ≤ (1 : Int); omega), (by show ((m.1 134 5)).toInt ≤ 12; omega)⟩
  · intro c5
    have k6 := y_ner (n := 45) rfl c5
    have r7 := w.at (a := 134) (k := 5) rfl
    exact ⟨w, f, _, rfl, (by show (0 : Int) ≤ (0 : Int); omega), (by show (0 : Int) ≤ (1 : Int); omega), (by show ((m.1 134 5)).toInt ≤ 12; omega)⟩
set_option maxHeartbeats 4000000 in
theorem s_X3_takeDash_140 {ad : Nat → Nat} {d : Nat} {m : Wm} {x1 : Int32} (w : WT m) (i1 : (m.1 140 5).toInt ≤ 12) : Ct ad μX3_takeDash d [.ref (ad 140), .int x1] m (fun r m' => WT m' ∧ Fx (RS [7]) m m' ∧ ∃ v : Int32, r = some (.int v) ∧ (0 : Int) ≤ v.toInt ∧ v.toInt ≤ 1 ∧ ((m'.1 140 5).toInt ≤ 12)) := by
  have f : Fx (RS [7]) m m := Fx.rf
  refine v_X3_takeDash Pl_140 ?_
  refine ⟨?_, ?_⟩
  · intro c1
    have k2 := y_eqr (n := 45) rfl c1
    have w3 : WT (uI m 140 7 (3 : Int32)) := w.n rfl
    have f3 : Fx (RS [7]) m (uI m 140 7 (3 : Int32)) := f.i rfl
    have r4 := w.at (a := 140) (k := 5) rfl
    exact ⟨w3, f3, _, rfl, (by show (0 : Int) ≤ (1 : Int); omega), (by show (1 : Int) ≤ (1 : Int); omega), (by show ((m.1 140 5)).toInt ≤ 12; omega)⟩
  · intro c5
    have k6 := y_ner (n := 45) rfl c5
    have r7 := w.at (a := 140) (k := 5) rfl
    exact ⟨w, f, _, rfl, (by show (0 : Int) ≤ (0 : Int); omega), (by show (0 : Int) ≤ (1 : Int); omega), (by show ((m.1 140 5)).toInt ≤ 12; omega)⟩
theorem s_X3_takeDash {ad : Nat → Nat} {d : Nat} {m : Wm} {b0 : Nat} {x1 : Int32} (w : WT m) (hb0 : b0 = 134 ∨ b0 = 140) (i1 : (m.1 b0 5).toInt ≤ 12) : Ct ad μX3_takeDash d [.ref (ad b0), .int x1] m (fun r m' => WT m' ∧ Fx (RS [7]) m m' ∧ ∃ v : Int32, r = some (.int v) ∧ (0 : Int) ≤ v.toInt ∧ v.toInt ≤ 1 ∧ ((m'.1 b0 5).toInt ≤ 12)) := by
  rcases hb0 with rfl | rfl
  · exact s_X3_takeDash_134 w i1
  · exact s_X3_takeDash_140 w i1
set_option maxHeartbeats 4000000 in
theorem s_X3_takeThrow_134 {ad : Nat → Nat} {d : Nat} {m : Wm} {x1 x2 x3 : Int32} (w : WT m) (i1 : (m.1 134 5).toInt ≤ 12) : Ct ad μX3_takeThrow d [.ref (ad 134), .int x1, .int x2, .int x3] m (fun r m' => WT m' ∧ Fx (RS [7]) m m' ∧ ∃ v : Int32, r = some (.int v) ∧ (0 : Int) ≤ v.toInt ∧ v.toInt ≤ 1 ∧ ((m'.1 134 5).toInt ≤ 12)) := by
  have f : Fx (RS [7]) m m := Fx.rf
  refine v_X3_takeThrow Pl_134 ?_
  refine ⟨?_, ?_⟩
  · intro c1
    have k2 := y_eqr (n := 33) rfl c1
    refine ⟨?_, ?_⟩
    · intro c3
      have r4 := w.at (a := 134) (k := 6) rfl
      have k5 := y_ler (n := 0) rfl c3
      have w6 : WT (uI m 134 7 x3) := w.n rfl
      have f6 : Fx (RS [7]) m (uI m 134 7 x3) := f.i rfl
      have r7 := w.at (a := 134) (k := 5) rfl
      exact ⟨w6, f6, _, rfl, (by show (0 : Int) ≤ (1 : Int); omega), (by show (1 : Int) ≤ (1 : Int); omega), (by show ((m.1 134 5)).toInt ≤ 12; omega)⟩
    · intro c8
      have r9 := w.at (a := 134) (k := 6) rfl
      have k10 := y_nler (n := 0) rfl c8
      refine ⟨?_, ?_⟩
      · have t11 := ti_subc (x := (m.1 134 6)) (y := (1 : Int32)) (c := 1) rfl (by omega)
        exact vpi (by omega) (by omega)
      · refine ⟨?_, ?_⟩
        · have t12 := ti_subc (x := (m.1 134 6)) (y := (1 : Int32)) (c := 1) rfl (by omega)
          exact vpi (by omega) (by omega)
        · have w13 : WT (uI m (134 + 3) (((m.1 134 6) - (1 : Int32)).toNatClampNeg) ((m.1 (134 + 3) (((m.1 134 6) - (1 : Int32)).toNatClampNeg)) ||| x2)) := w.n rfl
          have f13 : Fx (RS [7]) m (uI m (134 + 3) (((m.1 134 6) - (1 : Int32)).toNatClampNeg) ((m.1 (134 + 3) (((m.1 134 6) - (1 : Int32)).toNatClampNeg)) ||| x2)) := f.i rfl
          have w14 : WT (uI (uI m (134 + 3) (((m.1 134 6) - (1 : Int32)).toNatClampNeg) ((m.1 (134 + 3) (((m.1 134 6) - (1 : Int32)).toNatClampNeg)) ||| x2)) 134 7 x3) := w13.n rfl
          have f14 : Fx (RS [7]) m (uI (uI m (134 + 3) (((m.1 134 6) - (1 : Int32)).toNatClampNeg) ((m.1 (134 + 3) (((m.1 134 6) - (1 : Int32)).toNatClampNeg)) ||| x2)) 134 7 x3) := f13.i rfl
          have r15 := w.at (a := 134) (k := 5) rfl
          exact ⟨w14, f14, _, rfl, (by show (0 : Int) ≤ (1 : Int); omega), (by show (1 : Int) ≤ (1 : Int); omega), (by show ((m.1 134 5)).toInt ≤ 12; omega)⟩
  · intro c16
    have k17 := y_ner (n := 33) rfl c16
    have r18 := w.at (a := 134) (k := 5) rfl
    exact ⟨w, f, _, rfl, (by show (0 : Int) ≤ (0 : Int); omega), (by show (0 : Int) ≤ (1 : Int); omega), (by show ((m.1 134 5)).toInt ≤ 12; omega)⟩
set_option maxHeartbeats 4000000 in
theorem s_X3_takeThrow_140 {ad : Nat → Nat} {d : Nat} {m : Wm} {x1 x2 x3 : Int32} (w : WT m) (i1 : (m.1 140 5).toInt ≤ 12) : Ct ad μX3_takeThrow d [.ref (ad 140), .int x1, .int x2, .int x3] m (fun r m' => WT m' ∧ Fx (RS [7]) m m' ∧ ∃ v : Int32, r = some (.int v) ∧ (0 : Int) ≤ v.toInt ∧ v.toInt ≤ 1 ∧ ((m'.1 140 5).toInt ≤ 12)) := by
  have f : Fx (RS [7]) m m := Fx.rf
  refine v_X3_takeThrow Pl_140 ?_
  refine ⟨?_, ?_⟩
  · intro c1
    have k2 := y_eqr (n := 33) rfl c1
    refine ⟨?_, ?_⟩
    · intro c3
      have r4 := w.at (a := 140) (k := 6) rfl
      have k5 := y_ler (n := 0) rfl c3
      have w6 : WT (uI m 140 7 x3) := w.n rfl
      have f6 : Fx (RS [7]) m (uI m 140 7 x3) := f.i rfl
      have r7 := w.at (a := 140) (k := 5) rfl
      exact ⟨w6, f6, _, rfl, (by show (0 : Int) ≤ (1 : Int); omega), (by show (1 : Int) ≤ (1 : Int); omega), (by show ((m.1 140 5)).toInt ≤ 12; omega)⟩
    · intro c8
      have r9 := w.at (a := 140) (k := 6) rfl
      have k10 := y_nler (n := 0) rfl c8
      refine ⟨?_, ?_⟩
      · have t11 := ti_subc (x := (m.1 140 6)) (y := (1 : Int32)) (c := 1) rfl (by omega)
        exact vpi (by omega) (by omega)
      · refine ⟨?_, ?_⟩
        · have t12 := ti_subc (x := (m.1 140 6)) (y := (1 : Int32)) (c := 1) rfl (by omega)
          exact vpi (by omega) (by omega)
        · have w13 : WT (uI m (140 + 3) (((m.1 140 6) - (1 : Int32)).toNatClampNeg) ((m.1 (140 + 3) (((m.1 140 6) - (1 : Int32)).toNatClampNeg)) ||| x2)) := w.n rfl
          have f13 : Fx (RS [7]) m (uI m (140 + 3) (((m.1 140 6) - (1 : Int32)).toNatClampNeg) ((m.1 (140 + 3) (((m.1 140 6) - (1 : Int32)).toNatClampNeg)) ||| x2)) := f.i rfl
          have w14 : WT (uI (uI m (140 + 3) (((m.1 140 6) - (1 : Int32)).toNatClampNeg) ((m.1 (140 + 3) (((m.1 140 6) - (1 : Int32)).toNatClampNeg)) ||| x2)) 140 7 x3) := w13.n rfl
          have f14 : Fx (RS [7]) m (uI (uI m (140 + 3) (((m.1 140 6) - (1 : Int32)).toNatClampNeg) ((m.1 (140 + 3) (((m.1 140 6) - (1 : Int32)).toNatClampNeg)) ||| x2)) 140 7 x3) := f13.i rfl
          have r15 := w.at (a := 140) (k := 5) rfl
          exact ⟨w14, f14, _, rfl, (by show (0 : Int) ≤ (1 : Int); omega), (by show (1 : Int) ≤ (1 : Int); omega), (by show ((m.1 140 5)).toInt ≤ 12; omega)⟩
  · intro c16
    have k17 := y_ner (n := 33) rfl c16
    have r18 := w.at (a := 140) (k := 5) rfl
    exact ⟨w, f, _, rfl, (by show (0 : Int) ≤ (0 : Int); omega), (by show (0 : Int) ≤ (1 : Int); omega), (by show ((m.1 140 5)).toInt ≤ 12; omega)⟩
theorem s_X3_takeThrow {ad : Nat → Nat} {d : Nat} {m : Wm} {b0 : Nat} {x1 x2 x3 : Int32} (w : WT m) (hb0 : b0 = 134 ∨ b0 = 140) (i1 : (m.1 b0 5).toInt ≤ 12) : Ct ad μX3_takeThrow d [.ref (ad b0), .int x1, .int x2, .int x3] m (fun r m' => WT m' ∧ Fx (RS [7]) m m' ∧ ∃ v : Int32, r = some (.int v) ∧ (0 : Int) ≤ v.toInt ∧ v.toInt ≤ 1 ∧ ((m'.1 b0 5).toInt ≤ 12)) := by
  rcases hb0 with rfl | rfl
  · exact s_X3_takeThrow_134 w i1
  · exact s_X3_takeThrow_140 w i1
set_option maxHeartbeats 4000000 in
theorem s_X3_takeBreak_134 {ad : Nat → Nat} {d : Nat} {m : Wm} {x1 : Int32} (w : WT m) (i1 : (m.1 134 5).toInt ≤ 12) : Ct ad μX3_takeBreak (d + 1) [.ref (ad 134), .int x1] m (fun r m' => WT m' ∧ Fx (RS [7]) m m' ∧ ∃ v : Int32, r = some (.int v) ∧ (0 : Int) ≤ v.toInt ∧ v.toInt ≤ 1 ∧ ((m'.1 134 5).toInt ≤ 12 ∨ (m'.1 134 7).toInt = 0)) := by
  have f : Fx (RS [7]) m m := Fx.rf
  refine v_X3_takeBreak Pl_134 ?_
  refine ⟨?_, ?_⟩
  · intro c1
    have k2 := y_ner (n := 59) rfl c1
    refine ⟨?_, ?_⟩
    · intro c3
      have k4 := y_ner (n := 44) rfl c3
      have w5 : WT (uI m 134 7 (0 : Int32)) := w.n rfl
      have f5 : Fx (RS [7]) m (uI m 134 7 (0 : Int32)) := f.i rfl
      have r6 := w.at (a := 134) (k := 5) rfl
      exact ⟨w5, f5, _, rfl, (by show (0 : Int) ≤ (0 : Int); omega), (by show (0 : Int) ≤ (1 : Int); omega), (by show ((m.1 134 5)).toInt ≤ 12 ∨ (0 : Int) = 0; omega)⟩
    · intro c7
      have k8 := y_eqr (n := 44) rfl c7
      have w9 : WT (uI m 134 7 (0 : Int32)) := w.n rfl
      have f9 : Fx (RS [7]) m (uI m 134 7 (0 : Int32)) := f.i rfl
      have r10 := w.at (a := 134) (k := 5) rfl
      exact ⟨w9, f9, _, rfl, (by show (0 : Int) ≤ (1 : Int); omega), (by show (1 : Int) ≤ (1 : Int); omega), (by show ((m.1 134 5)).toInt ≤ 12 ∨ (0 : Int) = 0; omega)⟩
  · intro c11
    have k12 := y_eqr (n := 59) rfl c11
    have r13 := w.at (a := 134) (k := 5) rfl
    refine (s_X3_openRound w (Or.inl rfl) (by show ((m.1 134 5)).toInt ≤ 12; omega)).to ?_
    rintro _ m1 ⟨w_m1, g14, rfl, p15, p16⟩
    have f_m1 : Fx (RS [7]) m m1 := f.tr g14 (RS_sub rfl)
    have p17 : (m1.1 134 5).toInt = ((m.1 134 5)).toInt + 1 := p15
    clear p15
    have p18 : (m1.1 134 7).toInt = 0 := p16
    clear p16
    refine ⟨rfl, ?_⟩
    have r19 := w_m1.at (a := 134) (k := 5) rfl
    exact ⟨w_m1, f_m1, _, rfl, (by show (0 : Int) ≤ (1 : Int); omega), (by show (1 : Int) ≤ (1 : Int); omega), (by show ((m1.1 134 5)).toInt ≤ 12 ∨ ((m1.1 134 7)).toInt = 0; omega)⟩
set_option maxHeartbeats 4000000 in
theorem s_X3_takeBreak_140 {ad : Nat → Nat} {d : Nat} {m : Wm} {x1 : Int32} (w : WT m) (i1 : (m.1 140 5).toInt ≤ 12) : Ct ad μX3_takeBreak (d + 1) [.ref (ad 140), .int x1] m (fun r m' => WT m' ∧ Fx (RS [7]) m m' ∧ ∃ v : Int32, r = some (.int v) ∧ (0 : Int) ≤ v.toInt ∧ v.toInt ≤ 1 ∧ ((m'.1 140 5).toInt ≤ 12 ∨ (m'.1 140 7).toInt = 0)) := by
  have f : Fx (RS [7]) m m := Fx.rf
  refine v_X3_takeBreak Pl_140 ?_
  refine ⟨?_, ?_⟩
  · intro c1
    have k2 := y_ner (n := 59) rfl c1
    refine ⟨?_, ?_⟩
    · intro c3
      have k4 := y_ner (n := 44) rfl c3
      have w5 : WT (uI m 140 7 (0 : Int32)) := w.n rfl
      have f5 : Fx (RS [7]) m (uI m 140 7 (0 : Int32)) := f.i rfl
      have r6 := w.at (a := 140) (k := 5) rfl
      exact ⟨w5, f5, _, rfl, (by show (0 : Int) ≤ (0 : Int); omega), (by show (0 : Int) ≤ (1 : Int); omega), (by show ((m.1 140 5)).toInt ≤ 12 ∨ (0 : Int) = 0; omega)⟩
    · intro c7
      have k8 := y_eqr (n := 44) rfl c7
      have w9 : WT (uI m 140 7 (0 : Int32)) := w.n rfl
      have f9 : Fx (RS [7]) m (uI m 140 7 (0 : Int32)) := f.i rfl
      have r10 := w.at (a := 140) (k := 5) rfl
      exact ⟨w9, f9, _, rfl, (by show (0 : Int) ≤ (1 : Int); omega), (by show (1 : Int) ≤ (1 : Int); omega), (by show ((m.1 140 5)).toInt ≤ 12 ∨ (0 : Int) = 0; omega)⟩
  · intro c11
    have k12 := y_eqr (n := 59) rfl c11
    have r13 := w.at (a := 140) (k := 5) rfl
    refine (s_X3_openRound w (Or.inr rfl) (by show ((m.1 140 5)).toInt ≤ 12; omega)).to ?_
    rintro _ m1 ⟨w_m1, g14, rfl, p15, p16⟩
    have f_m1 : Fx (RS [7]) m m1 := f.tr g14 (RS_sub rfl)
    have p17 : (m1.1 140 5).toInt = ((m.1 140 5)).toInt + 1 := p15
    clear p15
    have p18 : (m1.1 140 7).toInt = 0 := p16
    clear p16
    refine ⟨rfl, ?_⟩
    have r19 := w_m1.at (a := 140) (k := 5) rfl
    exact ⟨w_m1, f_m1, _, rfl, (by show (0 : Int) ≤ (1 : Int); omega), (by show (1 : Int) ≤ (1 : Int); omega), (by show ((m1.1 140 5)).toInt ≤ 12 ∨ ((m1.1 140 7)).toInt = 0; omega)⟩
theorem s_X3_takeBreak {ad : Nat → Nat} {d : Nat} {m : Wm} {b0 : Nat} {x1 : Int32} (w : WT m) (hb0 : b0 = 134 ∨ b0 = 140) (i1 : (m.1 b0 5).toInt ≤ 12) : Ct ad μX3_takeBreak (d + 1) [.ref (ad b0), .int x1] m (fun r m' => WT m' ∧ Fx (RS [7]) m m' ∧ ∃ v : Int32, r = some (.int v) ∧ (0 : Int) ≤ v.toInt ∧ v.toInt ≤ 1 ∧ ((m'.1 b0 5).toInt ≤ 12 ∨ (m'.1 b0 7).toInt = 0)) := by
  rcases hb0 with rfl | rfl
  · exact s_X3_takeBreak_134 w i1
  · exact s_X3_takeBreak_140 w i1
set_option maxHeartbeats 4000000 in
theorem s_X3_takeSide_134 {ad : Nat → Nat} {d : Nat} {m : Wm} {x1 x2 : Int32} (w : WT m) (i1 : (0 : Int) ≤ x2.toInt) (i2 : x2.toInt ≤ (8 : Int)) (i3 : (m.1 134 5).toInt ≤ 12) : Ct ad μX3_takeSide (d + 1) [.ref (ad 134), .int x1, .int x2] m (fun r m' => WT m' ∧ Fx (RS [7]) m m' ∧ ∃ v : Int32, r = some (.int v) ∧ (0 : Int) ≤ v.toInt ∧ v.toInt ≤ 1 ∧ ((m'.1 134 5).toInt ≤ 12)) := by
  have f : Fx (RS [7]) m m := Fx.rf
  refine v_X3_takeSide Pl_134 ?_
  refine ⟨?_, ?_⟩
  · intro c1
    have k2 := y_ltr (n := 0) rfl c1
    have r3 := w.at (a := 134) (k := 5) rfl
    exact ⟨w, f, _, rfl, (by show (0 : Int) ≤ (0 : Int); omega), (by show (0 : Int) ≤ (1 : Int); omega), (by show ((m.1 134 5)).toInt ≤ 12; omega)⟩
  · intro c4
    have k5 := y_nltr (n := 0) rfl c4
    refine ⟨?_, ?_⟩
    · intro c6
      have k7 := z_le c6
      have r8 := w.at (a := 134) (k := 5) rfl
      exact ⟨w, f, _, rfl, (by show (0 : Int) ≤ (0 : Int); omega), (by show (0 : Int) ≤ (1 : Int); omega), (by show ((m.1 134 5)).toInt ≤ 12; omega)⟩
    · intro c9
      have k10 := z_nle c9
      refine ⟨?_, ?_⟩
      · intro c11
        have t12 := t_and1 ((m.1 134 8) >>> (x1 &&& 31))
        have k13 := y_eqr (n := 0) rfl c11
        refine ⟨?_, ?_⟩
        · intro c14
          have c15 : ¬ (m.1 134 7) = (0 : Int32) := c14
          have k16 := y_ner (n := 0) rfl c15
          refine ⟨?_, ?_⟩
          · intro c17
            have r18 := w.at (a := 134) (k := 6) rfl
            have c19 : (m.1 134 6) ≤ (0 : Int32) := c17
            have k20 := y_ler (n := 0) rfl c19
            have w21 : WT (uI m 134 8 ((m.1 134 8) ||| ((1 : Int32) <<< (x1 &&& 31)))) := w.n rfl
            have f21 : Fx (RS [7]) m (uI m 134 8 ((m.1 134 8) ||| ((1 : Int32) <<< (x1 &&& 31)))) := f.i rfl
            have w22 : WT (uI (uI m 134 8 ((m.1 134 8) ||| ((1 : Int32) <<< (x1 &&& 31)))) 134 7 (4 : Int32)) := w21.n rfl
            have f22 : Fx (RS [7]) m (uI (uI m 134 8 ((m.1 134 8) ||| ((1 : Int32) <<< (x1 &&& 31)))) 134 7 (4 : Int32)) := f21.i rfl
            have r23 := w.at (a := 134) (k := 5) rfl
            exact ⟨w22, f22, _, rfl, (by show (0 : Int) ≤ (1 : Int); omega), (by show (1 : Int) ≤ (1 : Int); omega), (by show ((m.1 134 5)).toInt ≤ 12; omega)⟩
          · intro c24
            have r25 := w.at (a := 134) (k := 6) rfl
            have c26 : ¬ (m.1 134 6) ≤ (0 : Int32) := c24
            have k27 := y_nler (n := 0) rfl c26
            refine ⟨?_, ?_⟩
            · have t28 := ti_subc (x := (m.1 134 6)) (y := (1 : Int32)) (c := 1) rfl (by omega)
              show vp_in ((m.1 134 6) - (1 : Int32)) 48
              exact vpi (by omega) (by omega)
            · have w29 : WT (uI m 134 8 ((m.1 134 8) ||| ((1 : Int32) <<< (x1 &&& 31)))) := w.n rfl
              have f29 : Fx (RS [7]) m (uI m 134 8 ((m.1 134 8) ||| ((1 : Int32) <<< (x1 &&& 31)))) := f.i rfl
              have w30 : WT (uI (uI m 134 8 ((m.1 134 8) ||| ((1 : Int32) <<< (x1 &&& 31)))) (134 + 2) ((((uI m 134 8 ((m.1 134 8) ||| ((1 : Int32) <<< (x1 &&& 31)))).1 134 6) - (1 : Int32)).toNatClampNeg) x1) := w29.t rfl (by show (0 : Int) ≤ (x1).toInt; omega) (by show (x1).toInt ≤ 7; omega)
              have f30 : Fx (RS [7]) m (uI (uI m 134 8 ((m.1 134 8) ||| ((1 : Int32) <<< (x1 &&& 31)))) (134 + 2) ((((uI m 134 8 ((m.1 134 8) ||| ((1 : Int32) <<< (x1 &&& 31)))).1 134 6) - (1 : Int32)).toNatClampNeg) x1) := f29.i rfl
              have w31 : WT (uI (uI (uI m 134 8 ((m.1 134 8) ||| ((1 : Int32) <<< (x1 &&& 31)))) (134 + 2) ((((uI m 134 8 ((m.1 134 8) ||| ((1 : Int32) <<< (x1 &&& 31)))).1 134 6) - (1 : Int32)).toNatClampNeg) x1) 134 7 (4 : Int32)) := w30.n rfl
              have f31 : Fx (RS [7]) m (uI (uI (uI m 134 8 ((m.1 134 8) ||| ((1 : Int32) <<< (x1 &&& 31)))) (134 + 2) ((((uI m 134 8 ((m.1 134 8) ||| ((1 : Int32) <<< (x1 &&& 31)))).1 134 6) - (1 : Int32)).toNatClampNeg) x1) 134 7 (4 : Int32)) := f30.i rfl
              have r32 := w.at (a := 134) (k := 5) rfl
              exact ⟨w31, f31, _, rfl, (by show (0 : Int) ≤ (1 : Int); omega), (by show (1 : Int) ≤ (1 : Int); omega), (by show ((m.1 134 5)).toInt ≤ 12; omega)⟩
        · intro c33
          have c34 : (m.1 134 7) = (0 : Int32) := c33
          have k35 := y_eqr (n := 0) rfl c34
          have w36 : WT (uI m 134 8 ((m.1 134 8) ||| ((1 : Int32) <<< (x1 &&& 31)))) := w.n rfl
          have f36 : Fx (RS [7]) m (uI m 134 8 ((m.1 134 8) ||| ((1 : Int32) <<< (x1 &&& 31)))) := f.i rfl
          refine (s_X3_addGame w36 (Or.inl rfl) (by show (0 : Int) ≤ (x1).toInt; omega) (by show (x1).toInt ≤ (7 : Int); omega) (by show (0 : Int) ≤ (x1).toInt; omega) (by show (x1).toInt ≤ (7 : Int); omega)).to ?_
          rintro _ m1 ⟨w_m1, g37, rfl, p38⟩
          have f_m1 : Fx (RS [7]) m m1 := f36.tr g37 (RS_sub rfl)
          have p39 : (m1.1 134 5).toInt = ((m.1 134 5)).toInt := p38
          clear p38
          refine ⟨rfl, ?_⟩
          have w40 : WT (uI m1 134 7 (1 : Int32)) := w_m1.n rfl
          have f40 : Fx (RS [7]) m (uI m1 134 7 (1 : Int32)) := f_m1.i rfl
          have r41 := w_m1.at (a := 134) (k := 5) rfl
          exact ⟨w40, f40, _, rfl, (by show (0 : Int) ≤ (1 : Int); omega), (by show (1 : Int) ≤ (1 : Int); omega), (by show ((m1.1 134 5)).toInt ≤ 12; omega)⟩
      · intro c42
        have t43 := t_and1 ((m.1 134 8) >>> (x1 &&& 31))
        have k44 := y_ner (n := 0) rfl c42
        have r45 := w.at (a := 134) (k := 5) rfl
        exact ⟨w, f, _, rfl, (by show (0 : Int) ≤ (0 : Int); omega), (by show (0 : Int) ≤ (1 : Int); omega), (by show ((m.1 134 5)).toInt ≤ 12; omega)⟩
set_option maxHeartbeats 4000000 in
theorem s_X3_takeSide_140 {ad : Nat → Nat} {d : Nat} {m : Wm} {x1 x2 : Int32} (w : WT m) (i1 : (0 : Int) ≤ x2.toInt) (i2 : x2.toInt ≤ (8 : Int)) (i3 : (m.1 140 5).toInt ≤ 12) : Ct ad μX3_takeSide (d + 1) [.ref (ad 140), .int x1, .int x2] m (fun r m' => WT m' ∧ Fx (RS [7]) m m' ∧ ∃ v : Int32, r = some (.int v) ∧ (0 : Int) ≤ v.toInt ∧ v.toInt ≤ 1 ∧ ((m'.1 140 5).toInt ≤ 12)) := by
  have f : Fx (RS [7]) m m := Fx.rf
  refine v_X3_takeSide Pl_140 ?_
  refine ⟨?_, ?_⟩
  · intro c1
    have k2 := y_ltr (n := 0) rfl c1
    have r3 := w.at (a := 140) (k := 5) rfl
    exact ⟨w, f, _, rfl, (by show (0 : Int) ≤ (0 : Int); omega), (by show (0 : Int) ≤ (1 : Int); omega), (by show ((m.1 140 5)).toInt ≤ 12; omega)⟩
  · intro c4
    have k5 := y_nltr (n := 0) rfl c4
    refine ⟨?_, ?_⟩
    · intro c6
      have k7 := z_le c6
      have r8 := w.at (a := 140) (k := 5) rfl
      exact ⟨w, f, _, rfl, (by show (0 : Int) ≤ (0 : Int); omega), (by show (0 : Int) ≤ (1 : Int); omega), (by show ((m.1 140 5)).toInt ≤ 12; omega)⟩
    · intro c9
      have k10 := z_nle c9
      refine ⟨?_, ?_⟩
      · intro c11
        have t12 := t_and1 ((m.1 140 8) >>> (x1 &&& 31))
        have k13 := y_eqr (n := 0) rfl c11
        refine ⟨?_, ?_⟩
        · intro c14
          have c15 : ¬ (m.1 140 7) = (0 : Int32) := c14
          have k16 := y_ner (n := 0) rfl c15
          refine ⟨?_, ?_⟩
          · intro c17
            have r18 := w.at (a := 140) (k := 6) rfl
            have c19 : (m.1 140 6) ≤ (0 : Int32) := c17
            have k20 := y_ler (n := 0) rfl c19
            have w21 : WT (uI m 140 8 ((m.1 140 8) ||| ((1 : Int32) <<< (x1 &&& 31)))) := w.n rfl
            have f21 : Fx (RS [7]) m (uI m 140 8 ((m.1 140 8) ||| ((1 : Int32) <<< (x1 &&& 31)))) := f.i rfl
            have w22 : WT (uI (uI m 140 8 ((m.1 140 8) ||| ((1 : Int32) <<< (x1 &&& 31)))) 140 7 (4 : Int32)) := w21.n rfl
            have f22 : Fx (RS [7]) m (uI (uI m 140 8 ((m.1 140 8) ||| ((1 : Int32) <<< (x1 &&& 31)))) 140 7 (4 : Int32)) := f21.i rfl
            have r23 := w.at (a := 140) (k := 5) rfl
            exact ⟨w22, f22, _, rfl, (by show (0 : Int) ≤ (1 : Int); omega), (by show (1 : Int) ≤ (1 : Int); omega), (by show ((m.1 140 5)).toInt ≤ 12; omega)⟩
          · intro c24
            have r25 := w.at (a := 140) (k := 6) rfl
            have c26 : ¬ (m.1 140 6) ≤ (0 : Int32) := c24
            have k27 := y_nler (n := 0) rfl c26
            refine ⟨?_, ?_⟩
            · have t28 := ti_subc (x := (m.1 140 6)) (y := (1 : Int32)) (c := 1) rfl (by omega)
              show vp_in ((m.1 140 6) - (1 : Int32)) 48
              exact vpi (by omega) (by omega)
            · have w29 : WT (uI m 140 8 ((m.1 140 8) ||| ((1 : Int32) <<< (x1 &&& 31)))) := w.n rfl
              have f29 : Fx (RS [7]) m (uI m 140 8 ((m.1 140 8) ||| ((1 : Int32) <<< (x1 &&& 31)))) := f.i rfl
              have w30 : WT (uI (uI m 140 8 ((m.1 140 8) ||| ((1 : Int32) <<< (x1 &&& 31)))) (140 + 2) ((((uI m 140 8 ((m.1 140 8) ||| ((1 : Int32) <<< (x1 &&& 31)))).1 140 6) - (1 : Int32)).toNatClampNeg) x1) := w29.t rfl (by show (0 : Int) ≤ (x1).toInt; omega) (by show (x1).toInt ≤ 7; omega)
              have f30 : Fx (RS [7]) m (uI (uI m 140 8 ((m.1 140 8) ||| ((1 : Int32) <<< (x1 &&& 31)))) (140 + 2) ((((uI m 140 8 ((m.1 140 8) ||| ((1 : Int32) <<< (x1 &&& 31)))).1 140 6) - (1 : Int32)).toNatClampNeg) x1) := f29.i rfl
              have w31 : WT (uI (uI (uI m 140 8 ((m.1 140 8) ||| ((1 : Int32) <<< (x1 &&& 31)))) (140 + 2) ((((uI m 140 8 ((m.1 140 8) ||| ((1 : Int32) <<< (x1 &&& 31)))).1 140 6) - (1 : Int32)).toNatClampNeg) x1) 140 7 (4 : Int32)) := w30.n rfl
              have f31 : Fx (RS [7]) m (uI (uI (uI m 140 8 ((m.1 140 8) ||| ((1 : Int32) <<< (x1 &&& 31)))) (140 + 2) ((((uI m 140 8 ((m.1 140 8) ||| ((1 : Int32) <<< (x1 &&& 31)))).1 140 6) - (1 : Int32)).toNatClampNeg) x1) 140 7 (4 : Int32)) := f30.i rfl
              have r32 := w.at (a := 140) (k := 5) rfl
              exact ⟨w31, f31, _, rfl, (by show (0 : Int) ≤ (1 : Int); omega), (by show (1 : Int) ≤ (1 : Int); omega), (by show ((m.1 140 5)).toInt ≤ 12; omega)⟩
        · intro c33
          have c34 : (m.1 140 7) = (0 : Int32) := c33
          have k35 := y_eqr (n := 0) rfl c34
          have w36 : WT (uI m 140 8 ((m.1 140 8) ||| ((1 : Int32) <<< (x1 &&& 31)))) := w.n rfl
          have f36 : Fx (RS [7]) m (uI m 140 8 ((m.1 140 8) ||| ((1 : Int32) <<< (x1 &&& 31)))) := f.i rfl
          refine (s_X3_addGame w36 (Or.inr rfl) (by show (0 : Int) ≤ (x1).toInt; omega) (by show (x1).toInt ≤ (7 : Int); omega) (by show (0 : Int) ≤ (x1).toInt; omega) (by show (x1).toInt ≤ (7 : Int); omega)).to ?_
          rintro _ m1 ⟨w_m1, g37, rfl, p38⟩
          have f_m1 : Fx (RS [7]) m m1 := f36.tr g37 (RS_sub rfl)
          have p39 : (m1.1 140 5).toInt = ((m.1 140 5)).toInt := p38
          clear p38
          refine ⟨rfl, ?_⟩
          have w40 : WT (uI m1 140 7 (1 : Int32)) := w_m1.n rfl
          have f40 : Fx (RS [7]) m (uI m1 140 7 (1 : Int32)) := f_m1.i rfl
          have r41 := w_m1.at (a := 140) (k := 5) rfl
          exact ⟨w40, f40, _, rfl, (by show (0 : Int) ≤ (1 : Int); omega), (by show (1 : Int) ≤ (1 : Int); omega), (by show ((m1.1 140 5)).toInt ≤ 12; omega)⟩
      · intro c42
        have t43 := t_and1 ((m.1 140 8) >>> (x1 &&& 31))
        have k44 := y_ner (n := 0) rfl c42
        have r45 := w.at (a := 140) (k := 5) rfl
        exact ⟨w, f, _, rfl, (by show (0 : Int) ≤ (0 : Int); omega), (by show (0 : Int) ≤ (1 : Int); omega), (by show ((m.1 140 5)).toInt ≤ 12; omega)⟩
theorem s_X3_takeSide {ad : Nat → Nat} {d : Nat} {m : Wm} {b0 : Nat} {x1 x2 : Int32} (w : WT m) (hb0 : b0 = 134 ∨ b0 = 140) (i1 : (0 : Int) ≤ x2.toInt) (i2 : x2.toInt ≤ (8 : Int)) (i3 : (m.1 b0 5).toInt ≤ 12) : Ct ad μX3_takeSide (d + 1) [.ref (ad b0), .int x1, .int x2] m (fun r m' => WT m' ∧ Fx (RS [7]) m m' ∧ ∃ v : Int32, r = some (.int v) ∧ (0 : Int) ≤ v.toInt ∧ v.toInt ≤ 1 ∧ ((m'.1 b0 5).toInt ≤ 12)) := by
  rcases hb0 with rfl | rfl
  · exact s_X3_takeSide_134 w i1 i2 i3
  · exact s_X3_takeSide_140 w i1 i2 i3
set_option maxHeartbeats 4000000 in
theorem s_X3_take_134 {ad : Nat → Nat} {d : Nat} {m : Wm} {x1 x2 : Int32} (w : WT m) (i1 : (0 : Int) ≤ x2.toInt) (i2 : x2.toInt ≤ (8 : Int)) (i3 : (m.1 134 5).toInt ≤ 12 ∨ (m.1 134 7).toInt = 0) : Ct ad μX3_take (d + 2) [.ref (ad 134), .int x1, .int x2] m (fun r m' => WT m' ∧ Fx (RS [7]) m m' ∧ ∃ v : Int32, r = some (.int v) ∧ (0 : Int) ≤ v.toInt ∧ v.toInt ≤ 1 ∧ ((m'.1 134 5).toInt ≤ 12 ∨ (m'.1 134 7).toInt = 0)) := by
  have f : Fx (RS [7]) m m := Fx.rf
  refine v_X3_take Pl_134 ?_
  refine ⟨?_, ?_, ?_, ?_, ?_, ?_⟩
  · intro c1
    have k2 := y_eqr (n := 0) rfl c1
    refine ⟨?_, ?_⟩
    · intro c3
      have r4 := w.at (a := 134) (k := 5) rfl
      have k5 := y_ltl (n := 12) rfl c3
      exact ⟨w, f, _, rfl, (by show (0 : Int) ≤ (0 : Int); omega), (by show (0 : Int) ≤ (1 : Int); omega), (by show ((m.1 134 5)).toInt ≤ 12 ∨ ((m.1 134 7)).toInt = 0; omega)⟩
    · intro c6
      have r7 := w.at (a := 134) (k := 5) rfl
      have k8 := y_nltl (n := 12) rfl c6
      refine (s_X3_takeSide w (Or.inl rfl) (by show (0 : Int) ≤ (x2).toInt; omega) (by show (x2).toInt ≤ (8 : Int); omega) (by show ((m.1 134 5)).toInt ≤ 12; omega)).to ?_
      rintro _ m3 ⟨w_m3, g9, v4, rfl, p11, p12, p10⟩
      have f_m3 : Fx (RS [7]) m m3 := f.tr g9 (RS_sub rfl)
      have p13 : (m3.1 134 5).toInt ≤ 12 := p10
      clear p10
      refine ⟨v4, rfl, ?_⟩
      refine ⟨?_, ?_⟩
      · intro c14
        have k15 := y_eqr (n := 0) rfl c14
        have r16 := w_m3.at (a := 134) (k := 5) rfl
        exact ⟨w_m3, f_m3, _, rfl, (by show (0 : Int) ≤ (0 : Int); omega), (by show (0 : Int) ≤ (1 : Int); omega), (by show ((m3.1 134 5)).toInt ≤ 12 ∨ ((m3.1 134 7)).toInt = 0; omega)⟩
      · intro c17
        have k18 := y_ner (n := 0) rfl c17
        have r19 := w_m3.at (a := 134) (k := 5) rfl
        exact ⟨w_m3, f_m3, _, rfl, (by show (0 : Int) ≤ (1 : Int); omega), (by show (1 : Int) ≤ (1 : Int); omega), (by show ((m3.1 134 5)).toInt ≤ 12 ∨ ((m3.1 134 7)).toInt = 0; omega)⟩
  · intro c20
    have k21 := y_eqr (n := 1) rfl c20
    have r22 := w.at (a := 134) (k := 5) rfl
    refine (s_X3_takeThrow w (Or.inl rfl) (by show ((m.1 134 5)).toInt ≤ 12; omega)).to ?_
    rintro _ m5 ⟨w_m5, g23, v6, rfl, p25, p26, p24⟩
    have f_m5 : Fx (RS [7]) m m5 := f.tr g23 (RS_sub rfl)
    have p27 : (m5.1 134 5).toInt ≤ 12 := p24
    clear p24
    refine ⟨v6, rfl, ?_⟩
    refine ⟨?_, ?_⟩
    · intro c28
      have k29 := y_ner (n := 0) rfl c28
      have r30 := w_m5.at (a := 134) (k := 5) rfl
      exact ⟨w_m5, f_m5, _, rfl, (by show (0 : Int) ≤ (1 : Int); omega), (by show (1 : Int) ≤ (1 : Int); omega), (by show ((m5.1 134 5)).toInt ≤ 12 ∨ ((m5.1 134 7)).toInt = 0; omega)⟩
    · intro c31
      have k32 := y_eqr (n := 0) rfl c31
      have r33 := w_m5.at (a := 134) (k := 5) rfl
      refine (s_X3_takeDash w_m5 (Or.inl rfl) (by show ((m5.1 134 5)).toInt ≤ 12; omega)).to ?_
      rintro _ m7 ⟨w_m7, g34, v8, rfl, p36, p37, p35⟩
      have f_m7 : Fx (RS [7]) m m7 := f_m5.tr g34 (RS_sub rfl)
      have p38 : (m7.1 134 5).toInt ≤ 12 := p35
      clear p35
      refine ⟨v8, rfl, ?_⟩
      refine ⟨?_, ?_⟩
      · intro c39
        have k40 := y_eqr (n := 0) rfl c39
        have r41 := w_m7.at (a := 134) (k := 5) rfl
        exact ⟨w_m7, f_m7, _, rfl, (by show (0 : Int) ≤ (0 : Int); omega), (by show (0 : Int) ≤ (1 : Int); omega), (by show ((m7.1 134 5)).toInt ≤ 12 ∨ ((m7.1 134 7)).toInt = 0; omega)⟩
      · intro c42
        have k43 := y_ner (n := 0) rfl c42
        have r44 := w_m7.at (a := 134) (k := 5) rfl
        exact ⟨w_m7, f_m7, _, rfl, (by show (0 : Int) ≤ (1 : Int); omega), (by show (1 : Int) ≤ (1 : Int); omega), (by show ((m7.1 134 5)).toInt ≤ 12 ∨ ((m7.1 134 7)).toInt = 0; omega)⟩
  · intro c45
    have k46 := y_eqr (n := 2) rfl c45
    have r47 := w.at (a := 134) (k := 5) rfl
    refine (s_X3_takeDash w (Or.inl rfl) (by show ((m.1 134 5)).toInt ≤ 12; omega)).to ?_
    rintro _ m9 ⟨w_m9, g48, v10, rfl, p50, p51, p49⟩
    have f_m9 : Fx (RS [7]) m m9 := f.tr g48 (RS_sub rfl)
    have p52 : (m9.1 134 5).toInt ≤ 12 := p49
    clear p49
    refine ⟨v10, rfl, ?_⟩
    refine ⟨?_, ?_⟩
    · exact bz_of (by omega) (by omega)
    · have r53 := w_m9.at (a := 134) (k := 5) rfl
      exact ⟨w_m9, f_m9, _, rfl, (by show (0 : Int) ≤ (v10).toInt; omega), (by show (v10).toInt ≤ (1 : Int); omega), (by show ((m9.1 134 5)).toInt ≤ 12 ∨ ((m9.1 134 7)).toInt = 0; omega)⟩
  · intro c54
    have k55 := y_eqr (n := 3) rfl c54
    refine ⟨?_, ?_⟩
    · intro c56
      have r57 := w.at (a := 134) (k := 5) rfl
      have k58 := y_ltl (n := 12) rfl c56
      exact ⟨w, f, _, rfl, (by show (0 : Int) ≤ (0 : Int); omega), (by show (0 : Int) ≤ (1 : Int); omega), (by show ((m.1 134 5)).toInt ≤ 12 ∨ ((m.1 134 7)).toInt = 0; omega)⟩
    · intro c59
      have r60 := w.at (a := 134) (k := 5) rfl
      have k61 := y_nltl (n := 12) rfl c59
      refine (s_X3_takeSide w (Or.inl rfl) (by show (0 : Int) ≤ (x2).toInt; omega) (by show (x2).toInt ≤ (8 : Int); omega) (by show ((m.1 134 5)).toInt ≤ 12; omega)).to ?_
      rintro _ m11 ⟨w_m11, g62, v12, rfl, p64, p65, p63⟩
      have f_m11 : Fx (RS [7]) m m11 := f.tr g62 (RS_sub rfl)
      have p66 : (m11.1 134 5).toInt ≤ 12 := p63
      clear p63
      refine ⟨v12, rfl, ?_⟩
      refine ⟨?_, ?_⟩
      · intro c67
        have k68 := y_eqr (n := 0) rfl c67
        have r69 := w_m11.at (a := 134) (k := 5) rfl
        exact ⟨w_m11, f_m11, _, rfl, (by show (0 : Int) ≤ (0 : Int); omega), (by show (0 : Int) ≤ (1 : Int); omega), (by show ((m11.1 134 5)).toInt ≤ 12 ∨ ((m11.1 134 7)).toInt = 0; omega)⟩
      · intro c70
        have k71 := y_ner (n := 0) rfl c70
        have r72 := w_m11.at (a := 134) (k := 5) rfl
        exact ⟨w_m11, f_m11, _, rfl, (by show (0 : Int) ≤ (1 : Int); omega), (by show (1 : Int) ≤ (1 : Int); omega), (by show ((m11.1 134 5)).toInt ≤ 12 ∨ ((m11.1 134 7)).toInt = 0; omega)⟩
  · intro c73
    have k74 := y_eqr (n := 4) rfl c73
    have r75 := w.at (a := 134) (k := 5) rfl
    refine (s_X3_takeThrow w (Or.inl rfl) (by show ((m.1 134 5)).toInt ≤ 12; omega)).to ?_
    rintro _ m13 ⟨w_m13, g76, v14, rfl, p78, p79, p77⟩
    have f_m13 : Fx (RS [7]) m m13 := f.tr g76 (RS_sub rfl)
    have p80 : (m13.1 134 5).toInt ≤ 12 := p77
    clear p77
    refine ⟨v14, rfl, ?_⟩
    refine ⟨?_, ?_⟩
    · intro c81
      have k82 := y_ner (n := 0) rfl c81
      have r83 := w_m13.at (a := 134) (k := 5) rfl
      exact ⟨w_m13, f_m13, _, rfl, (by show (0 : Int) ≤ (1 : Int); omega), (by show (1 : Int) ≤ (1 : Int); omega), (by show ((m13.1 134 5)).toInt ≤ 12 ∨ ((m13.1 134 7)).toInt = 0; omega)⟩
    · intro c84
      have k85 := y_eqr (n := 0) rfl c84
      have r86 := w_m13.at (a := 134) (k := 5) rfl
      refine (s_X3_takeBreak w_m13 (Or.inl rfl) (by show ((m13.1 134 5)).toInt ≤ 12; omega)).to ?_
      rintro _ m15 ⟨w_m15, g87, v16, rfl, p89, p90, p88⟩
      have f_m15 : Fx (RS [7]) m m15 := f_m13.tr g87 (RS_sub rfl)
      have p91 : (m15.1 134 5).toInt ≤ 12 ∨ (m15.1 134 7).toInt = 0 := p88
      clear p88
      refine ⟨v16, rfl, ?_⟩
      refine ⟨?_, ?_⟩
      · intro c92
        have k93 := y_eqr (n := 0) rfl c92
        have r94 := w_m15.at (a := 134) (k := 5) rfl
        exact ⟨w_m15, f_m15, _, rfl, (by show (0 : Int) ≤ (0 : Int); omega), (by show (0 : Int) ≤ (1 : Int); omega), (by show ((m15.1 134 5)).toInt ≤ 12 ∨ ((m15.1 134 7)).toInt = 0; omega)⟩
      · intro c95
        have k96 := y_ner (n := 0) rfl c95
        have r97 := w_m15.at (a := 134) (k := 5) rfl
        exact ⟨w_m15, f_m15, _, rfl, (by show (0 : Int) ≤ (1 : Int); omega), (by show (1 : Int) ≤ (1 : Int); omega), (by show ((m15.1 134 5)).toInt ≤ 12 ∨ ((m15.1 134 7)).toInt = 0; omega)⟩
  · intro c98
    have k99 := y_ner (n := 0) rfl c98
    intro c100
    have k101 := y_ner (n := 1) rfl c100
    intro c102
    have k103 := y_ner (n := 2) rfl c102
    intro c104
    have k105 := y_ner (n := 3) rfl c104
    intro c106
    have k107 := y_ner (n := 4) rfl c106
    have r108 := w.at (a := 134) (k := 5) rfl
    refine (s_X3_takeBreak w (Or.inl rfl) (by show ((m.1 134 5)).toInt ≤ 12; omega)).to ?_
    rintro _ m1 ⟨w_m1, g109, v2, rfl, p111, p112, p110⟩
    have f_m1 : Fx (RS [7]) m m1 := f.tr g109 (RS_sub rfl)
    have p113 : (m1.1 134 5).toInt ≤ 12 ∨ (m1.1 134 7).toInt = 0 := p110
    clear p110
    refine ⟨v2, rfl, ?_⟩
    refine ⟨?_, ?_⟩
    · exact bz_of (by omega) (by omega)
    · have r114 := w_m1.at (a := 134) (k := 5) rfl
      exact ⟨w_m1, f_m1, _, rfl, (by show (0 : Int) ≤ (v2).toInt; omega), (by show (v2).toInt ≤ (1 : Int); omega), (by show ((m1.1 134 5)).toInt ≤ 12 ∨ ((m1.1 134 7)).toInt = 0; omega)⟩
set_option maxHeartbeats 4000000 in
theorem s_X3_take_140 {ad : Nat → Nat} {d : Nat} {m : Wm} {x1 x2 : Int32} (w : WT m) (i1 : (0 : Int) ≤ x2.toInt) (i2 : x2.toInt ≤ (8 : Int)) (i3 : (m.1 140 5).toInt ≤ 12 ∨ (m.1 140 7).toInt = 0) : Ct ad μX3_take (d + 2) [.ref (ad 140), .int x1, .int x2] m (fun r m' => WT m' ∧ Fx (RS [7]) m m' ∧ ∃ v : Int32, r = some (.int v) ∧ (0 : Int) ≤ v.toInt ∧ v.toInt ≤ 1 ∧ ((m'.1 140 5).toInt ≤ 12 ∨ (m'.1 140 7).toInt = 0)) := by
  have f : Fx (RS [7]) m m := Fx.rf
  refine v_X3_take Pl_140 ?_
  refine ⟨?_, ?_, ?_, ?_, ?_, ?_⟩
  · intro c1
    have k2 := y_eqr (n := 0) rfl c1
    refine ⟨?_, ?_⟩
    · intro c3
      have r4 := w.at (a := 140) (k := 5) rfl
      have k5 := y_ltl (n := 12) rfl c3
      exact ⟨w, f, _, rfl, (by show (0 : Int) ≤ (0 : Int); omega), (by show (0 : Int) ≤ (1 : Int); omega), (by show ((m.1 140 5)).toInt ≤ 12 ∨ ((m.1 140 7)).toInt = 0; omega)⟩
    · intro c6
      have r7 := w.at (a := 140) (k := 5) rfl
      have k8 := y_nltl (n := 12) rfl c6
      refine (s_X3_takeSide w (Or.inr rfl) (by show (0 : Int) ≤ (x2).toInt; omega) (by show (x2).toInt ≤ (8 : Int); omega) (by show ((m.1 140 5)).toInt ≤ 12; omega)).to ?_
      rintro _ m3 ⟨w_m3, g9, v4, rfl, p11, p12, p10⟩
      have f_m3 : Fx (RS [7]) m m3 := f.tr g9 (RS_sub rfl)
      have p13 : (m3.1 140 5).toInt ≤ 12 := p10
      clear p10
      refine ⟨v4, rfl, ?_⟩
      refine ⟨?_, ?_⟩
      · intro c14
        have k15 := y_eqr (n := 0) rfl c14
        have r16 := w_m3.at (a := 140) (k := 5) rfl
        exact ⟨w_m3, f_m3, _, rfl, (by show (0 : Int) ≤ (0 : Int); omega), (by show (0 : Int) ≤ (1 : Int); omega), (by show ((m3.1 140 5)).toInt ≤ 12 ∨ ((m3.1 140 7)).toInt = 0; omega)⟩
      · intro c17
        have k18 := y_ner (n := 0) rfl c17
        have r19 := w_m3.at (a := 140) (k := 5) rfl
        exact ⟨w_m3, f_m3, _, rfl, (by show (0 : Int) ≤ (1 : Int); omega), (by show (1 : Int) ≤ (1 : Int); omega), (by show ((m3.1 140 5)).toInt ≤ 12 ∨ ((m3.1 140 7)).toInt = 0; omega)⟩
  · intro c20
    have k21 := y_eqr (n := 1) rfl c20
    have r22 := w.at (a := 140) (k := 5) rfl
    refine (s_X3_takeThrow w (Or.inr rfl) (by show ((m.1 140 5)).toInt ≤ 12; omega)).to ?_
    rintro _ m5 ⟨w_m5, g23, v6, rfl, p25, p26, p24⟩
    have f_m5 : Fx (RS [7]) m m5 := f.tr g23 (RS_sub rfl)
    have p27 : (m5.1 140 5).toInt ≤ 12 := p24
    clear p24
    refine ⟨v6, rfl, ?_⟩
    refine ⟨?_, ?_⟩
    · intro c28
      have k29 := y_ner (n := 0) rfl c28
      have r30 := w_m5.at (a := 140) (k := 5) rfl
      exact ⟨w_m5, f_m5, _, rfl, (by show (0 : Int) ≤ (1 : Int); omega), (by show (1 : Int) ≤ (1 : Int); omega), (by show ((m5.1 140 5)).toInt ≤ 12 ∨ ((m5.1 140 7)).toInt = 0; omega)⟩
    · intro c31
      have k32 := y_eqr (n := 0) rfl c31
      have r33 := w_m5.at (a := 140) (k := 5) rfl
      refine (s_X3_takeDash w_m5 (Or.inr rfl) (by show ((m5.1 140 5)).toInt ≤ 12; omega)).to ?_
      rintro _ m7 ⟨w_m7, g34, v8, rfl, p36, p37, p35⟩
      have f_m7 : Fx (RS [7]) m m7 := f_m5.tr g34 (RS_sub rfl)
      have p38 : (m7.1 140 5).toInt ≤ 12 := p35
      clear p35
      refine ⟨v8, rfl, ?_⟩
      refine ⟨?_, ?_⟩
      · intro c39
        have k40 := y_eqr (n := 0) rfl c39
        have r41 := w_m7.at (a := 140) (k := 5) rfl
        exact ⟨w_m7, f_m7, _, rfl, (by show (0 : Int) ≤ (0 : Int); omega), (by show (0 : Int) ≤ (1 : Int); omega), (by show ((m7.1 140 5)).toInt ≤ 12 ∨ ((m7.1 140 7)).toInt = 0; omega)⟩
      · intro c42
        have k43 := y_ner (n := 0) rfl c42
        have r44 := w_m7.at (a := 140) (k := 5) rfl
        exact ⟨w_m7, f_m7, _, rfl, (by show (0 : Int) ≤ (1 : Int); omega), (by show (1 : Int) ≤ (1 : Int); omega), (by show ((m7.1 140 5)).toInt ≤ 12 ∨ ((m7.1 140 7)).toInt = 0; omega)⟩
  · intro c45
    have k46 := y_eqr (n := 2) rfl c45
    have r47 := w.at (a := 140) (k := 5) rfl
    refine (s_X3_takeDash w (Or.inr rfl) (by show ((m.1 140 5)).toInt ≤ 12; omega)).to ?_
    rintro _ m9 ⟨w_m9, g48, v10, rfl, p50, p51, p49⟩
    have f_m9 : Fx (RS [7]) m m9 := f.tr g48 (RS_sub rfl)
    have p52 : (m9.1 140 5).toInt ≤ 12 := p49
    clear p49
    refine ⟨v10, rfl, ?_⟩
    refine ⟨?_, ?_⟩
    · exact bz_of (by omega) (by omega)
    · have r53 := w_m9.at (a := 140) (k := 5) rfl
      exact ⟨w_m9, f_m9, _, rfl, (by show (0 : Int) ≤ (v10).toInt; omega), (by show (v10).toInt ≤ (1 : Int); omega), (by show ((m9.1 140 5)).toInt ≤ 12 ∨ ((m9.1 140 7)).toInt = 0; omega)⟩
  · intro c54
    have k55 := y_eqr (n := 3) rfl c54
    refine ⟨?_, ?_⟩
    · intro c56
      have r57 := w.at (a := 140) (k := 5) rfl
      have k58 := y_ltl (n := 12) rfl c56
      exact ⟨w, f, _, rfl, (by show (0 : Int) ≤ (0 : Int); omega), (by show (0 : Int) ≤ (1 : Int); omega), (by show ((m.1 140 5)).toInt ≤ 12 ∨ ((m.1 140 7)).toInt = 0; omega)⟩
    · intro c59
      have r60 := w.at (a := 140) (k := 5) rfl
      have k61 := y_nltl (n := 12) rfl c59
      refine (s_X3_takeSide w (Or.inr rfl) (by show (0 : Int) ≤ (x2).toInt; omega) (by show (x2).toInt ≤ (8 : Int); omega) (by show ((m.1 140 5)).toInt ≤ 12; omega)).to ?_
      rintro _ m11 ⟨w_m11, g62, v12, rfl, p64, p65, p63⟩
      have f_m11 : Fx (RS [7]) m m11 := f.tr g62 (RS_sub rfl)
      have p66 : (m11.1 140 5).toInt ≤ 12 := p63
      clear p63
      refine ⟨v12, rfl, ?_⟩
      refine ⟨?_, ?_⟩
      · intro c67
        have k68 := y_eqr (n := 0) rfl c67
        have r69 := w_m11.at (a := 140) (k := 5) rfl
        exact ⟨w_m11, f_m11, _, rfl, (by show (0 : Int) ≤ (0 : Int); omega), (by show (0 : Int) ≤ (1 : Int); omega), (by show ((m11.1 140 5)).toInt ≤ 12 ∨ ((m11.1 140 7)).toInt = 0; omega)⟩
      · intro c70
        have k71 := y_ner (n := 0) rfl c70
        have r72 := w_m11.at (a := 140) (k := 5) rfl
        exact ⟨w_m11, f_m11, _, rfl, (by show (0 : Int) ≤ (1 : Int); omega), (by show (1 : Int) ≤ (1 : Int); omega), (by show ((m11.1 140 5)).toInt ≤ 12 ∨ ((m11.1 140 7)).toInt = 0; omega)⟩
  · intro c73
    have k74 := y_eqr (n := 4) rfl c73
    have r75 := w.at (a := 140) (k := 5) rfl
    refine (s_X3_takeThrow w (Or.inr rfl) (by show ((m.1 140 5)).toInt ≤ 12; omega)).to ?_
    rintro _ m13 ⟨w_m13, g76, v14, rfl, p78, p79, p77⟩
    have f_m13 : Fx (RS [7]) m m13 := f.tr g76 (RS_sub rfl)
    have p80 : (m13.1 140 5).toInt ≤ 12 := p77
    clear p77
    refine ⟨v14, rfl, ?_⟩
    refine ⟨?_, ?_⟩
    · intro c81
      have k82 := y_ner (n := 0) rfl c81
      have r83 := w_m13.at (a := 140) (k := 5) rfl
      exact ⟨w_m13, f_m13, _, rfl, (by show (0 : Int) ≤ (1 : Int); omega), (by show (1 : Int) ≤ (1 : Int); omega), (by show ((m13.1 140 5)).toInt ≤ 12 ∨ ((m13.1 140 7)).toInt = 0; omega)⟩
    · intro c84
      have k85 := y_eqr (n := 0) rfl c84
      have r86 := w_m13.at (a := 140) (k := 5) rfl
      refine (s_X3_takeBreak w_m13 (Or.inr rfl) (by show ((m13.1 140 5)).toInt ≤ 12; omega)).to ?_
      rintro _ m15 ⟨w_m15, g87, v16, rfl, p89, p90, p88⟩
      have f_m15 : Fx (RS [7]) m m15 := f_m13.tr g87 (RS_sub rfl)
      have p91 : (m15.1 140 5).toInt ≤ 12 ∨ (m15.1 140 7).toInt = 0 := p88
      clear p88
      refine ⟨v16, rfl, ?_⟩
      refine ⟨?_, ?_⟩
      · intro c92
        have k93 := y_eqr (n := 0) rfl c92
        have r94 := w_m15.at (a := 140) (k := 5) rfl
        exact ⟨w_m15, f_m15, _, rfl, (by show (0 : Int) ≤ (0 : Int); omega), (by show (0 : Int) ≤ (1 : Int); omega), (by show ((m15.1 140 5)).toInt ≤ 12 ∨ ((m15.1 140 7)).toInt = 0; omega)⟩
      · intro c95
        have k96 := y_ner (n := 0) rfl c95
        have r97 := w_m15.at (a := 140) (k := 5) rfl
        exact ⟨w_m15, f_m15, _, rfl, (by show (0 : Int) ≤ (1 : Int); omega), (by show (1 : Int) ≤ (1 : Int); omega), (by show ((m15.1 140 5)).toInt ≤ 12 ∨ ((m15.1 140 7)).toInt = 0; omega)⟩
  · intro c98
    have k99 := y_ner (n := 0) rfl c98
    intro c100
    have k101 := y_ner (n := 1) rfl c100
    intro c102
    have k103 := y_ner (n := 2) rfl c102
    intro c104
    have k105 := y_ner (n := 3) rfl c104
    intro c106
    have k107 := y_ner (n := 4) rfl c106
    have r108 := w.at (a := 140) (k := 5) rfl
    refine (s_X3_takeBreak w (Or.inr rfl) (by show ((m.1 140 5)).toInt ≤ 12; omega)).to ?_
    rintro _ m1 ⟨w_m1, g109, v2, rfl, p111, p112, p110⟩
    have f_m1 : Fx (RS [7]) m m1 := f.tr g109 (RS_sub rfl)
    have p113 : (m1.1 140 5).toInt ≤ 12 ∨ (m1.1 140 7).toInt = 0 := p110
    clear p110
    refine ⟨v2, rfl, ?_⟩
    refine ⟨?_, ?_⟩
    · exact bz_of (by omega) (by omega)
    · have r114 := w_m1.at (a := 140) (k := 5) rfl
      exact ⟨w_m1, f_m1, _, rfl, (by show (0 : Int) ≤ (v2).toInt; omega), (by show (v2).toInt ≤ (1 : Int); omega), (by show ((m1.1 140 5)).toInt ≤ 12 ∨ ((m1.1 140 7)).toInt = 0; omega)⟩
theorem s_X3_take {ad : Nat → Nat} {d : Nat} {m : Wm} {b0 : Nat} {x1 x2 : Int32} (w : WT m) (hb0 : b0 = 134 ∨ b0 = 140) (i1 : (0 : Int) ≤ x2.toInt) (i2 : x2.toInt ≤ (8 : Int)) (i3 : (m.1 b0 5).toInt ≤ 12 ∨ (m.1 b0 7).toInt = 0) : Ct ad μX3_take (d + 2) [.ref (ad b0), .int x1, .int x2] m (fun r m' => WT m' ∧ Fx (RS [7]) m m' ∧ ∃ v : Int32, r = some (.int v) ∧ (0 : Int) ≤ v.toInt ∧ v.toInt ≤ 1 ∧ ((m'.1 b0 5).toInt ≤ 12 ∨ (m'.1 b0 7).toInt = 0)) := by
  rcases hb0 with rfl | rfl
  · exact s_X3_take_134 w i1 i2 i3
  · exact s_X3_take_140 w i1 i2 i3
set_option maxHeartbeats 4000000 in
theorem l_X3_compile_134 {ad : Nat → Nat} {d : Nat} {m0 : Wm}  : ∀ n : Nat, (∀ (m : Wm) (x2 x3 x4 : Int32), WT m → Fx (RS [7]) m0 m → (0 : Int) ≤ x2.toInt → x2.toInt ≤ (8 : Int) → (0 : Int) ≤ x3.toInt → x3.toInt ≤ (76 : Int) → (0 : Int) ≤ x4.toInt → x4.toInt ≤ (80 : Int) → ((m.1 134 5).toInt ≤ 12 ∨ (m.1 134 7).toInt = 0) → 80 - x4.toInt < (n : Int) → AW ad E0 μX3_compile (d + 3) (fun r m' => WT m' ∧ Fx (RS [7]) m0 m' ∧ ∃ v : Int32, r = some (.int v)) 30 [(0, .ref (ad 134)), (1, .ref (ad 1)), (2, .int x2), (3, .int x3), (4, .int x4)] [] m) := by
  intro n
  induction n with
  | zero =>
    intros
    exfalso
    omega
  | succ n ih =>
    intro m x2 x3 x4 w f j1 j2 j3 j4 j5 j6 j7 hn
    refine g_X3_compile_30 Pl_134 ?_
    refine ⟨?_, ?_⟩
    · intro c1
      have k2 := z_le c1
      refine ⟨?_, ?_⟩
      · intro c3
        have r4 := w.at (a := 1) (k := 1) rfl
        have k5 := y_ltl (n := 76) rfl c3
        exact ⟨w, f, _, rfl⟩
      · intro c6
        have r7 := w.at (a := 1) (k := 1) rfl
        have k8 := y_nltl (n := 76) rfl c6
        refine ⟨?_, ?_⟩
        · intro c9
          have k10 := y_eqr (n := 4) rfl c9
          exact ⟨w, f, _, rfl⟩
        · intro c11
          have k12 := y_ner (n := 4) rfl c11
          refine ⟨?_, ?_⟩
          · intro c13
            have k14 := y_eqr (n := 5) rfl c13
            exact ⟨w, f, _, rfl⟩
          · intro c15
            have k16 := y_ner (n := 5) rfl c15
            exact ⟨w, f, _, rfl⟩
    · intro c17
      have k18 := z_nle c17
      refine ⟨?_, ?_⟩
      · exact vpi (by omega) (by omega)
      · have r19 := w.at (a := 134) (k := 5) rfl
        refine (s_X3_take w (Or.inl rfl) (by show (0 : Int) ≤ (x2).toInt; omega) (by show (x2).toInt ≤ (8 : Int); omega) (by show ((m.1 134 5)).toInt ≤ 12 ∨ ((m.1 134 7)).toInt = 0; omega)).to ?_
        rintro _ m1 ⟨w_m1, g20, v2, rfl, p22, p23, p21⟩
        have f_m1 : Fx (RS [7]) m0 m1 := f.tr g20 (RS_sub rfl)
        have p24 : (m1.1 134 5).toInt ≤ 12 ∨ (m1.1 134 7).toInt = 0 := p21
        clear p21
        refine ⟨v2, rfl, ?_⟩
        refine ⟨?_, ?_⟩
        · intro c25
          have k26 := y_ner (n := 0) rfl c25
          have t27 := ti_addc (x := x4) (y := (1 : Int32)) (c := 1) rfl (by omega)
          have r28 := w_m1.at (a := 134) (k := 5) rfl
          exact ih _ _ _ _ w_m1 f_m1 (by show (0 : Int) ≤ (x2).toInt; omega) (by show (x2).toInt ≤ (8 : Int); omega) (by show (0 : Int) ≤ (x3).toInt; omega) (by show (x3).toInt ≤ (76 : Int); omega) (by show (0 : Int) ≤ ((x4 + (1 : Int32))).toInt; omega) (by show ((x4 + (1 : Int32))).toInt ≤ (80 : Int); omega) (by show ((m1.1 134 5)).toInt ≤ 12 ∨ ((m1.1 134 7)).toInt = 0; omega) (by show 80 - ((x4 + (1 : Int32))).toInt < _; omega)
        · intro c29
          have k30 := y_eqr (n := 0) rfl c29
          exact ⟨w_m1, f_m1, _, rfl⟩
set_option maxHeartbeats 4000000 in
theorem s_X3_compile_134 {ad : Nat → Nat} {d : Nat} {m : Wm} {x2 : Int32} (w : WT m) (i1 : (0 : Int) ≤ x2.toInt) (i2 : x2.toInt ≤ (8 : Int)) : Ct ad μX3_compile (d + 3) [.ref (ad 134), .ref (ad 1), .int x2] m (fun r m' => WT m' ∧ Fx (RS [7]) m m' ∧ ∃ v : Int32, r = some (.int v)) := by
  have f : Fx (RS [7]) m m := Fx.rf
  refine v_X3_compile Pl_134 ?_
  refine (s_X3_clear w (Or.inl rfl)).to ?_
  rintro _ m1 ⟨w_m1, g1, rfl, p2⟩
  have f_m1 : Fx (RS [7]) m m1 := f.tr g1 (RS_sub rfl)
  have p3 : (m1.1 134 5).toInt = 0 := p2
  clear p2
  refine ⟨rfl, ?_⟩
  refine ⟨?_, ?_⟩
  · intro c4
    have r5 := w_m1.at (a := 1) (k := 1) rfl
    have k6 := y_ner (n := 0) rfl c4
    have r7 := w_m1.at (a := 134) (k := 5) rfl
    refine (s_X3_openRound w_m1 (Or.inl rfl) (by show ((m1.1 134 5)).toInt ≤ 12; omega)).to ?_
    rintro _ m2 ⟨w_m2, g8, rfl, p9, p10⟩
    have f_m2 : Fx (RS [7]) m m2 := f_m1.tr g8 (RS_sub rfl)
    have p11 : (m2.1 134 5).toInt = ((m1.1 134 5)).toInt + 1 := p9
    clear p9
    have p12 : (m2.1 134 7).toInt = 0 := p10
    clear p10
    refine ⟨rfl, ?_⟩
    have r13 := w_m2.at (a := 1) (k := 1) rfl
    have t14 := ti_ltv (a := (76 : Int32)) (b := (m2.1 1 1)) (c := (76 : Int32)) (d := (m2.1 1 1)) (A := (76)) (B := (m2.1 1 1).toInt) (C := (76)) (D := (m2.1 1 1).toInt) rfl rfl rfl rfl
    have r15 := w_m2.at (a := 134) (k := 5) rfl
    exact (l_X3_compile_134 (m0 := m) 1000000) _ _ _ _ w_m2 f_m2 (by show (0 : Int) ≤ (x2).toInt; omega) (by show (x2).toInt ≤ (8 : Int); omega) (by show (0 : Int) ≤ ((if (76 : Int32) < (m2.1 1 1) then (76 : Int32) else (m2.1 1 1))).toInt; omega) (by show ((if (76 : Int32) < (m2.1 1 1) then (76 : Int32) else (m2.1 1 1))).toInt ≤ (76 : Int); omega) (by show (0 : Int) ≤ (0 : Int); omega) (by show (0 : Int) ≤ (80 : Int); omega) (by show ((m2.1 134 5)).toInt ≤ 12 ∨ ((m2.1 134 7)).toInt = 0; omega) (by show 80 - (0 : Int) < _; omega)
  · intro c16
    have r17 := w_m1.at (a := 1) (k := 1) rfl
    have k18 := y_eqr (n := 0) rfl c16
    exact ⟨w_m1, f_m1, _, rfl⟩
set_option maxHeartbeats 4000000 in
theorem l_X3_compile_140 {ad : Nat → Nat} {d : Nat} {m0 : Wm}  : ∀ n : Nat, (∀ (m : Wm) (x2 x3 x4 : Int32), WT m → Fx (RS [7]) m0 m → (0 : Int) ≤ x2.toInt → x2.toInt ≤ (8 : Int) → (0 : Int) ≤ x3.toInt → x3.toInt ≤ (76 : Int) → (0 : Int) ≤ x4.toInt → x4.toInt ≤ (80 : Int) → ((m.1 140 5).toInt ≤ 12 ∨ (m.1 140 7).toInt = 0) → 80 - x4.toInt < (n : Int) → AW ad E0 μX3_compile (d + 3) (fun r m' => WT m' ∧ Fx (RS [7]) m0 m' ∧ ∃ v : Int32, r = some (.int v)) 30 [(0, .ref (ad 140)), (1, .ref (ad 1)), (2, .int x2), (3, .int x3), (4, .int x4)] [] m) := by
  intro n
  induction n with
  | zero =>
    intros
    exfalso
    omega
  | succ n ih =>
    intro m x2 x3 x4 w f j1 j2 j3 j4 j5 j6 j7 hn
    refine g_X3_compile_30 Pl_140 ?_
    refine ⟨?_, ?_⟩
    · intro c1
      have k2 := z_le c1
      refine ⟨?_, ?_⟩
      · intro c3
        have r4 := w.at (a := 1) (k := 1) rfl
        have k5 := y_ltl (n := 76) rfl c3
        exact ⟨w, f, _, rfl⟩
      · intro c6
        have r7 := w.at (a := 1) (k := 1) rfl
        have k8 := y_nltl (n := 76) rfl c6
        refine ⟨?_, ?_⟩
        · intro c9
          have k10 := y_eqr (n := 4) rfl c9
          exact ⟨w, f, _, rfl⟩
        · intro c11
          have k12 := y_ner (n := 4) rfl c11
          refine ⟨?_, ?_⟩
          · intro c13
            have k14 := y_eqr (n := 5) rfl c13
            exact ⟨w, f, _, rfl⟩
          · intro c15
            have k16 := y_ner (n := 5) rfl c15
            exact ⟨w, f, _, rfl⟩
    · intro c17
      have k18 := z_nle c17
      refine ⟨?_, ?_⟩
      · exact vpi (by omega) (by omega)
      · have r19 := w.at (a := 140) (k := 5) rfl
        refine (s_X3_take w (Or.inr rfl) (by show (0 : Int) ≤ (x2).toInt; omega) (by show (x2).toInt ≤ (8 : Int); omega) (by show ((m.1 140 5)).toInt ≤ 12 ∨ ((m.1 140 7)).toInt = 0; omega)).to ?_
        rintro _ m1 ⟨w_m1, g20, v2, rfl, p22, p23, p21⟩
        have f_m1 : Fx (RS [7]) m0 m1 := f.tr g20 (RS_sub rfl)
        have p24 : (m1.1 140 5).toInt ≤ 12 ∨ (m1.1 140 7).toInt = 0 := p21
        clear p21
        refine ⟨v2, rfl, ?_⟩
        refine ⟨?_, ?_⟩
        · intro c25
          have k26 := y_ner (n := 0) rfl c25
          have t27 := ti_addc (x := x4) (y := (1 : Int32)) (c := 1) rfl (by omega)
          have r28 := w_m1.at (a := 140) (k := 5) rfl
          exact ih _ _ _ _ w_m1 f_m1 (by show (0 : Int) ≤ (x2).toInt; omega) (by show (x2).toInt ≤ (8 : Int); omega) (by show (0 : Int) ≤ (x3).toInt; omega) (by show (x3).toInt ≤ (76 : Int); omega) (by show (0 : Int) ≤ ((x4 + (1 : Int32))).toInt; omega) (by show ((x4 + (1 : Int32))).toInt ≤ (80 : Int); omega) (by show ((m1.1 140 5)).toInt ≤ 12 ∨ ((m1.1 140 7)).toInt = 0; omega) (by show 80 - ((x4 + (1 : Int32))).toInt < _; omega)
        · intro c29
          have k30 := y_eqr (n := 0) rfl c29
          exact ⟨w_m1, f_m1, _, rfl⟩
set_option maxHeartbeats 4000000 in
theorem s_X3_compile_140 {ad : Nat → Nat} {d : Nat} {m : Wm} {x2 : Int32} (w : WT m) (i1 : (0 : Int) ≤ x2.toInt) (i2 : x2.toInt ≤ (8 : Int)) : Ct ad μX3_compile (d + 3) [.ref (ad 140), .ref (ad 1), .int x2] m (fun r m' => WT m' ∧ Fx (RS [7]) m m' ∧ ∃ v : Int32, r = some (.int v)) := by
  have f : Fx (RS [7]) m m := Fx.rf
  refine v_X3_compile Pl_140 ?_
  refine (s_X3_clear w (Or.inr rfl)).to ?_
  rintro _ m1 ⟨w_m1, g1, rfl, p2⟩
  have f_m1 : Fx (RS [7]) m m1 := f.tr g1 (RS_sub rfl)
  have p3 : (m1.1 140 5).toInt = 0 := p2
  clear p2
  refine ⟨rfl, ?_⟩
  refine ⟨?_, ?_⟩
  · intro c4
    have r5 := w_m1.at (a := 1) (k := 1) rfl
    have k6 := y_ner (n := 0) rfl c4
    have r7 := w_m1.at (a := 140) (k := 5) rfl
    refine (s_X3_openRound w_m1 (Or.inr rfl) (by show ((m1.1 140 5)).toInt ≤ 12; omega)).to ?_
    rintro _ m2 ⟨w_m2, g8, rfl, p9, p10⟩
    have f_m2 : Fx (RS [7]) m m2 := f_m1.tr g8 (RS_sub rfl)
    have p11 : (m2.1 140 5).toInt = ((m1.1 140 5)).toInt + 1 := p9
    clear p9
    have p12 : (m2.1 140 7).toInt = 0 := p10
    clear p10
    refine ⟨rfl, ?_⟩
    have r13 := w_m2.at (a := 1) (k := 1) rfl
    have t14 := ti_ltv (a := (76 : Int32)) (b := (m2.1 1 1)) (c := (76 : Int32)) (d := (m2.1 1 1)) (A := (76)) (B := (m2.1 1 1).toInt) (C := (76)) (D := (m2.1 1 1).toInt) rfl rfl rfl rfl
    have r15 := w_m2.at (a := 140) (k := 5) rfl
    exact (l_X3_compile_140 (m0 := m) 1000000) _ _ _ _ w_m2 f_m2 (by show (0 : Int) ≤ (x2).toInt; omega) (by show (x2).toInt ≤ (8 : Int); omega) (by show (0 : Int) ≤ ((if (76 : Int32) < (m2.1 1 1) then (76 : Int32) else (m2.1 1 1))).toInt; omega) (by show ((if (76 : Int32) < (m2.1 1 1) then (76 : Int32) else (m2.1 1 1))).toInt ≤ (76 : Int); omega) (by show (0 : Int) ≤ (0 : Int); omega) (by show (0 : Int) ≤ (80 : Int); omega) (by show ((m2.1 140 5)).toInt ≤ 12 ∨ ((m2.1 140 7)).toInt = 0; omega) (by show 80 - (0 : Int) < _; omega)
  · intro c16
    have r17 := w_m1.at (a := 1) (k := 1) rfl
    have k18 := y_eqr (n := 0) rfl c16
    exact ⟨w_m1, f_m1, _, rfl⟩
theorem s_X3_compile {ad : Nat → Nat} {d : Nat} {m : Wm} {b0 : Nat} {x2 : Int32} (w : WT m) (hb0 : b0 = 134 ∨ b0 = 140) (i1 : (0 : Int) ≤ x2.toInt) (i2 : x2.toInt ≤ (8 : Int)) : Ct ad μX3_compile (d + 3) [.ref (ad b0), .ref (ad 1), .int x2] m (fun r m' => WT m' ∧ Fx (RS [7]) m m' ∧ ∃ v : Int32, r = some (.int v)) := by
  rcases hb0 with rfl | rfl
  · exact s_X3_compile_134 w i1 i2
  · exact s_X3_compile_140 w i1 i2
set_option maxHeartbeats 4000000 in
theorem l_X3_turnPlaces_134 {ad : Nat → Nat} {d : Nat} {m0 : Wm}  : ∀ n : Nat, (∀ (m : Wm) (x2 x3 : Int32), WT m → Fx (RS [7]) m0 m → (0 : Int) ≤ x2.toInt → x2.toInt ≤ (7 : Int) → (1 : Int) ≤ x3.toInt → x3.toInt ≤ (7 : Int) → ((m.1 134 5).toInt = (m0.1 134 5).toInt) → x3.toInt + 0 < (n : Int) → AW ad E0 μX3_turnPlaces d (fun r m' => WT m' ∧ Fx (RS [7]) m0 m' ∧ r = none ∧ ((m'.1 134 5).toInt = (m0.1 134 5).toInt)) 13 [(0, .ref (ad 134)), (2, .int x2), (3, .int x3)] [] m) := by
  intro n
  induction n with
  | zero =>
    intros
    exfalso
    omega
  | succ n ih =>
    intro m x2 x3 w f j1 j2 j3 j4 j5 hn
    refine g_X3_turnPlaces_13 Pl_134 ?_
    refine ⟨?_, ?_⟩
    · intro c1
      have k2 := y_ler (n := 1) rfl c1
      have w3 : WT (uI m (134 + 5) ((1 : Int32).toNatClampNeg) x2) := w.t rfl (by show (0 : Int) ≤ (x2).toInt; omega) (by show (x2).toInt ≤ 7; omega)
      have f3 : Fx (RS [7]) m0 (uI m (134 + 5) ((1 : Int32).toNatClampNeg) x2) := f.i rfl
      have r4 := w.at (a := 134) (k := 5) rfl
      exact ⟨w3, f3, rfl, (by show ((m.1 134 5)).toInt = (m0.1 134 5).toInt; omega)⟩
    · intro c5
      have k6 := y_nler (n := 1) rfl c5
      refine ⟨?_, ?_⟩
      · have t7 := ti_subc (x := x3) (y := (1 : Int32)) (c := 1) rfl (by omega)
        exact vpi (by omega) (by omega)
      · refine ⟨?_, ?_⟩
        · exact vpi (by omega) (by omega)
        · have r9 := w.at (a := (134 + 5)) (k := ((x3 - (1 : Int32)).toNatClampNeg)) rfl
          have w8 : WT (uI m (134 + 5) x3.toNatClampNeg (m.1 (134 + 5) ((x3 - (1 : Int32)).toNatClampNeg))) := w.t rfl (by show (0 : Int) ≤ ((m.1 (134 + 5) ((x3 - (1 : Int32)).toNatClampNeg))).toInt; omega) (by show ((m.1 (134 + 5) ((x3 - (1 : Int32)).toNatClampNeg))).toInt ≤ 7; omega)
          have f8 : Fx (RS [7]) m0 (uI m (134 + 5) x3.toNatClampNeg (m.1 (134 + 5) ((x3 - (1 : Int32)).toNatClampNeg))) := f.i rfl
          have t10 := ti_addc (x := x3) (y := (-1 : Int32)) (c := -1) rfl (by omega)
          have r11 := w.at (a := 134) (k := 5) rfl
          exact ih _ _ _ w8 f8 (by show (0 : Int) ≤ (x2).toInt; omega) (by show (x2).toInt ≤ (7 : Int); omega) (by show (1 : Int) ≤ ((x3 + (-1 : Int32))).toInt; omega) (by show ((x3 + (-1 : Int32))).toInt ≤ (7 : Int); omega) (by show ((m.1 134 5)).toInt = (m0.1 134 5).toInt; omega) (by show ((x3 + (-1 : Int32))).toInt + 0 < _; omega)
set_option maxHeartbeats 4000000 in
theorem s_X3_turnPlaces_134 {ad : Nat → Nat} {d : Nat} {m : Wm} {x1 : Int32} (w : WT m) (i1 : (2 : Int) ≤ x1.toInt) (i2 : x1.toInt ≤ (8 : Int)) : Ct ad μX3_turnPlaces d [.ref (ad 134), .int x1] m (fun r m' => WT m' ∧ Fx (RS [7]) m m' ∧ r = none ∧ ((m'.1 134 5).toInt = (m.1 134 5).toInt)) := by
  have f : Fx (RS [7]) m m := Fx.rf
  refine v_X3_turnPlaces Pl_134 ?_
  refine ⟨?_, ?_⟩
  · have t1 := ti_subc (x := x1) (y := (1 : Int32)) (c := 1) rfl (by omega)
    exact vpi (by omega) (by omega)
  · have r2 := w.at (a := (134 + 5)) (k := ((x1 - (1 : Int32)).toNatClampNeg)) rfl
    have t3 := ti_subc (x := x1) (y := (1 : Int32)) (c := 1) rfl (by omega)
    have r4 := w.at (a := 134) (k := 5) rfl
    exact (l_X3_turnPlaces_134 (m0 := m) 1000000) _ _ _ w f (by show (0 : Int) ≤ ((m.1 (134 + 5) ((x1 - (1 : Int32)).toNatClampNeg))).toInt; omega) (by show ((m.1 (134 + 5) ((x1 - (1 : Int32)).toNatClampNeg))).toInt ≤ (7 : Int); omega) (by show (1 : Int) ≤ ((x1 - (1 : Int32))).toInt; omega) (by show ((x1 - (1 : Int32))).toInt ≤ (7 : Int); omega) (by show ((m.1 134 5)).toInt = (m.1 134 5).toInt; omega) (by show ((x1 - (1 : Int32))).toInt + 0 < _; omega)
set_option maxHeartbeats 4000000 in
theorem l_X3_turnPlaces_140 {ad : Nat → Nat} {d : Nat} {m0 : Wm}  : ∀ n : Nat, (∀ (m : Wm) (x2 x3 : Int32), WT m → Fx (RS [7]) m0 m → (0 : Int) ≤ x2.toInt → x2.toInt ≤ (7 : Int) → (1 : Int) ≤ x3.toInt → x3.toInt ≤ (7 : Int) → ((m.1 140 5).toInt = (m0.1 140 5).toInt) → x3.toInt + 0 < (n : Int) → AW ad E0 μX3_turnPlaces d (fun r m' => WT m' ∧ Fx (RS [7]) m0 m' ∧ r = none ∧ ((m'.1 140 5).toInt = (m0.1 140 5).toInt)) 13 [(0, .ref (ad 140)), (2, .int x2), (3, .int x3)] [] m) := by
  intro n
  induction n with
  | zero =>
    intros
    exfalso
    omega
  | succ n ih =>
    intro m x2 x3 w f j1 j2 j3 j4 j5 hn
    refine g_X3_turnPlaces_13 Pl_140 ?_
    refine ⟨?_, ?_⟩
    · intro c1
      have k2 := y_ler (n := 1) rfl c1
      have w3 : WT (uI m (140 + 5) ((1 : Int32).toNatClampNeg) x2) := w.t rfl (by show (0 : Int) ≤ (x2).toInt; omega) (by show (x2).toInt ≤ 7; omega)
      have f3 : Fx (RS [7]) m0 (uI m (140 + 5) ((1 : Int32).toNatClampNeg) x2) := f.i rfl
      have r4 := w.at (a := 140) (k := 5) rfl
      exact ⟨w3, f3, rfl, (by show ((m.1 140 5)).toInt = (m0.1 140 5).toInt; omega)⟩
    · intro c5
      have k6 := y_nler (n := 1) rfl c5
      refine ⟨?_, ?_⟩
      · have t7 := ti_subc (x := x3) (y := (1 : Int32)) (c := 1) rfl (by omega)
        exact vpi (by omega) (by omega)
      · refine ⟨?_, ?_⟩
        · exact vpi (by omega) (by omega)
        · have r9 := w.at (a := (140 + 5)) (k := ((x3 - (1 : Int32)).toNatClampNeg)) rfl
          have w8 : WT (uI m (140 + 5) x3.toNatClampNeg (m.1 (140 + 5) ((x3 - (1 : Int32)).toNatClampNeg))) := w.t rfl (by show (0 : Int) ≤ ((m.1 (140 + 5) ((x3 - (1 : Int32)).toNatClampNeg))).toInt; omega) (by show ((m.1 (140 + 5) ((x3 - (1 : Int32)).toNatClampNeg))).toInt ≤ 7; omega)
          have f8 : Fx (RS [7]) m0 (uI m (140 + 5) x3.toNatClampNeg (m.1 (140 + 5) ((x3 - (1 : Int32)).toNatClampNeg))) := f.i rfl
          have t10 := ti_addc (x := x3) (y := (-1 : Int32)) (c := -1) rfl (by omega)
          have r11 := w.at (a := 140) (k := 5) rfl
          exact ih _ _ _ w8 f8 (by show (0 : Int) ≤ (x2).toInt; omega) (by show (x2).toInt ≤ (7 : Int); omega) (by show (1 : Int) ≤ ((x3 + (-1 : Int32))).toInt; omega) (by show ((x3 + (-1 : Int32))).toInt ≤ (7 : Int); omega) (by show ((m.1 140 5)).toInt = (m0.1 140 5).toInt; omega) (by show ((x3 + (-1 : Int32))).toInt + 0 < _; omega)
set_option maxHeartbeats 4000000 in
theorem s_X3_turnPlaces_140 {ad : Nat → Nat} {d : Nat} {m : Wm} {x1 : Int32} (w : WT m) (i1 : (2 : Int) ≤ x1.toInt) (i2 : x1.toInt ≤ (8 : Int)) : Ct ad μX3_turnPlaces d [.ref (ad 140), .int x1] m (fun r m' => WT m' ∧ Fx (RS [7]) m m' ∧ r = none ∧ ((m'.1 140 5).toInt = (m.1 140 5).toInt)) := by
  have f : Fx (RS [7]) m m := Fx.rf
  refine v_X3_turnPlaces Pl_140 ?_
  refine ⟨?_, ?_⟩
  · have t1 := ti_subc (x := x1) (y := (1 : Int32)) (c := 1) rfl (by omega)
    exact vpi (by omega) (by omega)
  · have r2 := w.at (a := (140 + 5)) (k := ((x1 - (1 : Int32)).toNatClampNeg)) rfl
    have t3 := ti_subc (x := x1) (y := (1 : Int32)) (c := 1) rfl (by omega)
    have r4 := w.at (a := 140) (k := 5) rfl
    exact (l_X3_turnPlaces_140 (m0 := m) 1000000) _ _ _ w f (by show (0 : Int) ≤ ((m.1 (140 + 5) ((x1 - (1 : Int32)).toNatClampNeg))).toInt; omega) (by show ((m.1 (140 + 5) ((x1 - (1 : Int32)).toNatClampNeg))).toInt ≤ (7 : Int); omega) (by show (1 : Int) ≤ ((x1 - (1 : Int32))).toInt; omega) (by show ((x1 - (1 : Int32))).toInt ≤ (7 : Int); omega) (by show ((m.1 140 5)).toInt = (m.1 140 5).toInt; omega) (by show ((x1 - (1 : Int32))).toInt + 0 < _; omega)
theorem s_X3_turnPlaces {ad : Nat → Nat} {d : Nat} {m : Wm} {b0 : Nat} {x1 : Int32} (w : WT m) (hb0 : b0 = 134 ∨ b0 = 140) (i1 : (2 : Int) ≤ x1.toInt) (i2 : x1.toInt ≤ (8 : Int)) : Ct ad μX3_turnPlaces d [.ref (ad b0), .int x1] m (fun r m' => WT m' ∧ Fx (RS [7]) m m' ∧ r = none ∧ ((m'.1 b0 5).toInt = (m.1 b0 5).toInt)) := by
  rcases hb0 with rfl | rfl
  · exact s_X3_turnPlaces_134 w i1 i2
  · exact s_X3_turnPlaces_140 w i1 i2
set_option maxHeartbeats 4000000 in
theorem l_X3_fillEachWithEach_134 {ad : Nat → Nat} {d : Nat} {m0 : Wm}  : ∀ n : Nat, (∀ (m : Wm) (x1 x2 x3 : Int32), WT m → Fx (RS [7]) m0 m → (0 : Int) ≤ x1.toInt → x1.toInt ≤ (8 : Int) → (0 : Int) ≤ x2.toInt → x2.toInt ≤ (8 : Int) → (0 : Int) ≤ x3.toInt → x3.toInt ≤ (8 : Int) → ((m.1 134 5).toInt = 0) → 2000 - x3.toInt < (n : Int) → AW ad E0 μX3_fillEachWithEach (d + 1) (fun r m' => WT m' ∧ Fx (RS [7]) m0 m' ∧ r = none) 17 [(0, .ref (ad 134)), (1, .int x1), (2, .int x2), (3, .int x3)] [] m) ∧ (∀ (m : Wm) (x1 x2 x3 : Int32), WT m → Fx (RS [7]) m0 m → (0 : Int) ≤ x1.toInt → x1.toInt ≤ (8 : Int) → (0 : Int) ≤ x2.toInt → x2.toInt ≤ (8 : Int) → (0 : Int) ≤ x3.toInt → x3.toInt ≤ (8 : Int) → ((m.1 134 5).toInt = x3.toInt) → (8 - x3.toInt) * 100 + 50 < (n : Int) → AW ad E0 μX3_fillEachWithEach (d + 1) (fun r m' => WT m' ∧ Fx (RS [7]) m0 m' ∧ r = none) 37 [(0, .ref (ad 134)), (1, .int x1), (2, .int x2), (3, .int x3)] [] m) ∧ (∀ (m : Wm) (x1 x2 x3 x4 : Int32), WT m → Fx (RS [7]) m0 m → (0 : Int) ≤ x1.toInt → x1.toInt ≤ (8 : Int) → (2 : Int) ≤ x2.toInt → x2.toInt ≤ (8 : Int) → (0 : Int) ≤ x3.toInt → x3.toInt ≤ (7 : Int) → (0 : Int) ≤ x4.toInt → x4.toInt ≤ (8 : Int) → ((m.1 134 5).toInt = x3.toInt + 1) → (x3.toInt + 1 < x2.toInt) → (8 - x3.toInt) * 100 + 10 - x4.toInt < (n : Int) → AW ad E0 μX3_fillEachWithEach (d + 1) (fun r m' => WT m' ∧ Fx (RS [7]) m0 m' ∧ r = none) 51 [(0, .ref (ad 134)), (1, .int x1), (2, .int x2), (3, .int x3), (4, .int x4)] [] m) := by
  intro n
  induction n with
  | zero =>
    refine ⟨?_, ?_, ?_⟩ <;> intros <;> exfalso <;> omega
  | succ n ih =>
    refine ⟨?_, ?_, ?_⟩
    · intro m x1 x2 x3 w f j1 j2 j3 j4 j5 j6 j7 hn
      refine g_X3_fillEachWithEach_17 Pl_134 ?_
      refine ⟨?_, ?_⟩
      · intro c1
        have k2 := z_le c1
        have r3 := w.at (a := 134) (k := 5) rfl
        exact ih.2.1 _ _ _ _ w f (by show (0 : Int) ≤ (x1).toInt; omega) (by show (x1).toInt ≤ (8 : Int); omega) (by show (0 : Int) ≤ (x2).toInt; omega) (by show (x2).toInt ≤ (8 : Int); omega) (by show (0 : Int) ≤ (0 : Int); omega) (by show (0 : Int) ≤ (8 : Int); omega) (by show ((m.1 134 5)).toInt = (0 : Int); omega) (by show (8 - (0 : Int)) * 100 + 50 < _; omega)
      · intro c4
        have k5 := z_nle c4
        refine ⟨?_, ?_⟩
        · exact vpi (by omega) (by omega)
        · have w6 : WT (uI m (134 + 5) x3.toNatClampNeg x3) := w.t rfl (by show (0 : Int) ≤ (x3).toInt; omega) (by show (x3).toInt ≤ 7; omega)
          have f6 : Fx (RS [7]) m0 (uI m (134 + 5) x3.toNatClampNeg x3) := f.i rfl
          have t7 := ti_addc (x := x3) (y := (1 : Int32)) (c := 1) rfl (by omega)
          have r8 := w.at (a := 134) (k := 5) rfl
          exact ih.1 _ _ _ _ w6 f6 (by show (0 : Int) ≤ (x1).toInt; omega) (by show (x1).toInt ≤ (8 : Int); omega) (by show (0 : Int) ≤ (x2).toInt; omega) (by show (x2).toInt ≤ (8 : Int); omega) (by show (0 : Int) ≤ ((x3 + (1 : Int32))).toInt; omega) (by show ((x3 + (1 : Int32))).toInt ≤ (8 : Int); omega) (by show ((m.1 134 5)).toInt = 0; omega) (by show 2000 - ((x3 + (1 : Int32))).toInt < _; omega)
    · intro m x1 x2 x3 w f j1 j2 j3 j4 j5 j6 j7 hn
      refine g_X3_fillEachWithEach_37 Pl_134 ?_
      refine ⟨?_, ?_⟩
      · intro c1
        have t2 := ti_subc (x := x2) (y := (1 : Int32)) (c := 1) rfl (by omega)
        have k3 := z_le c1
        exact ⟨w, f, rfl⟩
      · intro c4
        have t5 := ti_subc (x := x2) (y := (1 : Int32)) (c := 1) rfl (by omega)
        have k6 := z_nle c4
        have r7 := w.at (a := 134) (k := 5) rfl
        refine (s_X3_openRound w (Or.inl rfl) (by show ((m.1 134 5)).toInt ≤ 12; omega)).to ?_
        rintro _ m1 ⟨w_m1, g8, rfl, p9, p10⟩
        have f_m1 : Fx (RS [7]) m0 m1 := f.tr g8 (RS_sub rfl)
        have p11 : (m1.1 134 5).toInt = ((m.1 134 5)).toInt + 1 := p9
        clear p9
        have p12 : (m1.1 134 7).toInt = 0 := p10
        clear p10
        refine ⟨rfl, ?_⟩
        have r13 := w_m1.at (a := 134) (k := 5) rfl
        exact ih.2.2 _ _ _ _ _ w_m1 f_m1 (by show (0 : Int) ≤ (x1).toInt; omega) (by show (x1).toInt ≤ (8 : Int); omega) (by show (2 : Int) ≤ (x2).toInt; omega) (by show (x2).toInt ≤ (8 : Int); omega) (by show (0 : Int) ≤ (x3).toInt; omega) (by show (x3).toInt ≤ (7 : Int); omega) (by show (0 : Int) ≤ (0 : Int); omega) (by show (0 : Int) ≤ (8 : Int); omega) (by show ((m1.1 134 5)).toInt = (x3).toInt + 1; omega) (by show (x3).toInt + 1 < (x2).toInt; omega) (by show (8 - (x3).toInt) * 100 + 10 - (0 : Int) < _; omega)
    · intro m x1 x2 x3 x4 w f j1 j2 j3 j4 j5 j6 j7 j8 j9 j10 hn
      refine g_X3_fillEachWithEach_51 Pl_134 ?_
      refine ⟨?_, ?_⟩
      · intro c1
        have t2 := t_div (x := x2) (y := (2 : Int32)) (c := 2) rfl (by decide) (by decide) (by omega)
        have k3 := z_le c1
        refine (s_X3_turnPlaces w (Or.inl rfl) (by show (2 : Int) ≤ (x2).toInt; omega) (by show (x2).toInt ≤ (8 : Int); omega)).to ?_
        rintro _ m1 ⟨w_m1, g4, rfl, p5⟩
        have f_m1 : Fx (RS [7]) m0 m1 := f.tr g4 (RS_sub rfl)
        have p6 : (m1.1 134 5).toInt = ((m.1 134 5)).toInt := p5
        clear p5
        refine ⟨rfl, ?_⟩
        have t7 := ti_addc (x := x3) (y := (1 : Int32)) (c := 1) rfl (by omega)
        have r8 := w_m1.at (a := 134) (k := 5) rfl
        exact ih.2.1 _ _ _ _ w_m1 f_m1 (by show (0 : Int) ≤ (x1).toInt; omega) (by show (x1).toInt ≤ (8 : Int); omega) (by show (0 : Int) ≤ (x2).toInt; omega) (by show (x2).toInt ≤ (8 : Int); omega) (by show (0 : Int) ≤ ((x3 + (1 : Int32))).toInt; omega) (by show ((x3 + (1 : Int32))).toInt ≤ (8 : Int); omega) (by show ((m1.1 134 5)).toInt = ((x3 + (1 : Int32))).toInt; omega) (by show (8 - ((x3 + (1 : Int32))).toInt) * 100 + 50 < _; omega)
      · intro c9
        have t10 := t_div (x := x2) (y := (2 : Int32)) (c := 2) rfl (by decide) (by decide) (by omega)
        have k11 := z_nle c9
        refine ⟨?_, ?_⟩
        · exact vpi (by omega) (by omega)
        · refine ⟨?_, ?_⟩
          · have t12 := ti_subc (x := x2) (y := (1 : Int32)) (c := 1) rfl (by omega)
            have t13 := ti_sub (x := (x2 - (1 : Int32))) (y := x4) (by omega)
            exact vpi (by omega) (by omega)
          · refine ⟨?_, ?_⟩
            · intro c14
              have r15 := w.at (a := (134 + 5)) (k := x4.toNatClampNeg) rfl
              have k16 := z_le c14
              have t17 := ti_addc (x := x4) (y := (1 : Int32)) (c := 1) rfl (by omega)
              have r18 := w.at (a := 134) (k := 5) rfl
              exact ih.2.2 _ _ _ _ _ w f (by show (0 : Int) ≤ (x1).toInt; omega) (by show (x1).toInt ≤ (8 : Int); omega) (by show (2 : Int) ≤ (x2).toInt; omega) (by show (x2).toInt ≤ (8 : Int); omega) (by show (0 : Int) ≤ (x3).toInt; omega) (by show (x3).toInt ≤ (7 : Int); omega) (by show (0 : Int) ≤ ((x4 + (1 : Int32))).toInt; omega) (by show ((x4 + (1 : Int32))).toInt ≤ (8 : Int); omega) (by show ((m.1 134 5)).toInt = (x3).toInt + 1; omega) (by show (x3).toInt + 1 < (x2).toInt; omega) (by show (8 - (x3).toInt) * 100 + 10 - ((x4 + (1 : Int32))).toInt < _; omega)
            · intro c19
              have r20 := w.at (a := (134 + 5)) (k := x4.toNatClampNeg) rfl
              have k21 := z_nle c19
              refine ⟨?_, ?_⟩
              · intro c22
                have r23 := w.at (a := (134 + 5)) (k := (((x2 - (1 : Int32)) - x4).toNatClampNeg)) rfl
                have k24 := z_le c22
                have t25 := ti_addc (x := x4) (y := (1 : Int32)) (c := 1) rfl (by omega)
                have r26 := w.at (a := 134) (k := 5) rfl
                exact ih.2.2 _ _ _ _ _ w f (by show (0 : Int) ≤ (x1).toInt; omega) (by show (x1).toInt ≤ (8 : Int); omega) (by show (2 : Int) ≤ (x2).toInt; omega) (by show (x2).toInt ≤ (8 : Int); omega) (by show (0 : Int) ≤ (x3).toInt; omega) (by show (x3).toInt ≤ (7 : Int); omega) (by show (0 : Int) ≤ ((x4 + (1 : Int32))).toInt; omega) (by show ((x4 + (1 : Int32))).toInt ≤ (8 : Int); omega) (by show ((m.1 134 5)).toInt = (x3).toInt + 1; omega) (by show (x3).toInt + 1 < (x2).toInt; omega) (by show (8 - (x3).toInt) * 100 + 10 - ((x4 + (1 : Int32))).toInt < _; omega)
              · intro c27
                have r28 := w.at (a := (134 + 5)) (k := (((x2 - (1 : Int32)) - x4).toNatClampNeg)) rfl
                have k29 := z_nle c27
                refine (s_X3_addGame w (Or.inl rfl) (by show (0 : Int) ≤ ((m.1 (134 + 5) x4.toNatClampNeg)).toInt; omega) (by show ((m.1 (134 + 5) x4.toNatClampNeg)).toInt ≤ (7 : Int); omega) (by show (0 : Int) ≤ ((m.1 (134 + 5) (((x2 - (1 : Int32)) - x4).toNatClampNeg))).toInt; omega) (by show ((m.1 (134 + 5) (((x2 - (1 : Int32)) - x4).toNatClampNeg))).toInt ≤ (7 : Int); omega)).to ?_
                rintro _ m2 ⟨w_m2, g30, rfl, p31⟩
                have f_m2 : Fx (RS [7]) m0 m2 := f.tr g30 (RS_sub rfl)
                have p32 : (m2.1 134 5).toInt = ((m.1 134 5)).toInt := p31
                clear p31
                refine ⟨rfl, ?_⟩
                have t33 := ti_addc (x := x4) (y := (1 : Int32)) (c := 1) rfl (by omega)
                have r34 := w_m2.at (a := 134) (k := 5) rfl
                exact ih.2.2 _ _ _ _ _ w_m2 f_m2 (by show (0 : Int) ≤ (x1).toInt; omega) (by show (x1).toInt ≤ (8 : Int); omega) (by show (2 : Int) ≤ (x2).toInt; omega) (by show (x2).toInt ≤ (8 : Int); omega) (by show (0 : Int) ≤ (x3).toInt; omega) (by show (x3).toInt ≤ (7 : Int); omega) (by show (0 : Int) ≤ ((x4 + (1 : Int32))).toInt; omega) (by show ((x4 + (1 : Int32))).toInt ≤ (8 : Int); omega) (by show ((m2.1 134 5)).toInt = (x3).toInt + 1; omega) (by show (x3).toInt + 1 < (x2).toInt; omega) (by show (8 - (x3).toInt) * 100 + 10 - ((x4 + (1 : Int32))).toInt < _; omega)
set_option maxHeartbeats 4000000 in
theorem s_X3_fillEachWithEach_134 {ad : Nat → Nat} {d : Nat} {m : Wm} {x1 : Int32} (w : WT m) (i1 : (0 : Int) ≤ x1.toInt) (i2 : x1.toInt ≤ (8 : Int)) : Ct ad μX3_fillEachWithEach (d + 1) [.ref (ad 134), .int x1] m (fun r m' => WT m' ∧ Fx (RS [7]) m m' ∧ r = none) := by
  have f : Fx (RS [7]) m m := Fx.rf
  refine v_X3_fillEachWithEach Pl_134 ?_
  refine (s_X3_clear w (Or.inl rfl)).to ?_
  rintro _ m1 ⟨w_m1, g1, rfl, p2⟩
  have f_m1 : Fx (RS [7]) m m1 := f.tr g1 (RS_sub rfl)
  have p3 : (m1.1 134 5).toInt = 0 := p2
  clear p2
  refine ⟨rfl, ?_⟩
  have t4 := t_and1 x1
  have t5 := ti_add (x := x1) (y := (x1 &&& (1 : Int32))) (by omega)
  have t6 := ti_ltv (a := (8 : Int32)) (b := (x1 + (x1 &&& (1 : Int32)))) (c := (8 : Int32)) (d := (x1 + (x1 &&& (1 : Int32)))) (A := (8)) (B := (x1 + (x1 &&& (1 : Int32))).toInt) (C := (8)) (D := (x1 + (x1 &&& (1 : Int32))).toInt) rfl rfl rfl rfl
  have r7 := w_m1.at (a := 134) (k := 5) rfl
  exact (l_X3_fillEachWithEach_134 (m0 := m) 1000000).1 _ _ _ _ w_m1 f_m1 (by show (0 : Int) ≤ (x1).toInt; omega) (by show (x1).toInt ≤ (8 : Int); omega) (by show (0 : Int) ≤ ((if (8 : Int32) < (x1 + (x1 &&& (1 : Int32))) then (8 : Int32) else (x1 + (x1 &&& (1 : Int32))))).toInt; omega) (by show ((if (8 : Int32) < (x1 + (x1 &&& (1 : Int32))) then (8 : Int32) else (x1 + (x1 &&& (1 : Int32))))).toInt ≤ (8 : Int); omega) (by show (0 : Int) ≤ (0 : Int); omega) (by show (0 : Int) ≤ (8 : Int); omega) (by show ((m1.1 134 5)).toInt = 0; omega) (by show 2000 - (0 : Int) < _; omega)
set_option maxHeartbeats 4000000 in
theorem l_X3_fillEachWithEach_140 {ad : Nat → Nat} {d : Nat} {m0 : Wm}  : ∀ n : Nat, (∀ (m : Wm) (x1 x2 x3 : Int32), WT m → Fx (RS [7]) m0 m → (0 : Int) ≤ x1.toInt → x1.toInt ≤ (8 : Int) → (0 : Int) ≤ x2.toInt → x2.toInt ≤ (8 : Int) → (0 : Int) ≤ x3.toInt → x3.toInt ≤ (8 : Int) → ((m.1 140 5).toInt = 0) → 2000 - x3.toInt < (n : Int) → AW ad E0 μX3_fillEachWithEach (d + 1) (fun r m' => WT m' ∧ Fx (RS [7]) m0 m' ∧ r = none) 17 [(0, .ref (ad 140)), (1, .int x1), (2, .int x2), (3, .int x3)] [] m) ∧ (∀ (m : Wm) (x1 x2 x3 : Int32), WT m → Fx (RS [7]) m0 m → (0 : Int) ≤ x1.toInt → x1.toInt ≤ (8 : Int) → (0 : Int) ≤ x2.toInt → x2.toInt ≤ (8 : Int) → (0 : Int) ≤ x3.toInt → x3.toInt ≤ (8 : Int) → ((m.1 140 5).toInt = x3.toInt) → (8 - x3.toInt) * 100 + 50 < (n : Int) → AW ad E0 μX3_fillEachWithEach (d + 1) (fun r m' => WT m' ∧ Fx (RS [7]) m0 m' ∧ r = none) 37 [(0, .ref (ad 140)), (1, .int x1), (2, .int x2), (3, .int x3)] [] m) ∧ (∀ (m : Wm) (x1 x2 x3 x4 : Int32), WT m → Fx (RS [7]) m0 m → (0 : Int) ≤ x1.toInt → x1.toInt ≤ (8 : Int) → (2 : Int) ≤ x2.toInt → x2.toInt ≤ (8 : Int) → (0 : Int) ≤ x3.toInt → x3.toInt ≤ (7 : Int) → (0 : Int) ≤ x4.toInt → x4.toInt ≤ (8 : Int) → ((m.1 140 5).toInt = x3.toInt + 1) → (x3.toInt + 1 < x2.toInt) → (8 - x3.toInt) * 100 + 10 - x4.toInt < (n : Int) → AW ad E0 μX3_fillEachWithEach (d + 1) (fun r m' => WT m' ∧ Fx (RS [7]) m0 m' ∧ r = none) 51 [(0, .ref (ad 140)), (1, .int x1), (2, .int x2), (3, .int x3), (4, .int x4)] [] m) := by
  intro n
  induction n with
  | zero =>
    refine ⟨?_, ?_, ?_⟩ <;> intros <;> exfalso <;> omega
  | succ n ih =>
    refine ⟨?_, ?_, ?_⟩
    · intro m x1 x2 x3 w f j1 j2 j3 j4 j5 j6 j7 hn
      refine g_X3_fillEachWithEach_17 Pl_140 ?_
      refine ⟨?_, ?_⟩
      · intro c1
        have k2 := z_le c1
        have r3 := w.at (a := 140) (k := 5) rfl
        exact ih.2.1 _ _ _ _ w f (by show (0 : Int) ≤ (x1).toInt; omega) (by show (x1).toInt ≤ (8 : Int); omega) (by show (0 : Int) ≤ (x2).toInt; omega) (by show (x2).toInt ≤ (8 : Int); omega) (by show (0 : Int) ≤ (0 : Int); omega) (by show (0 : Int) ≤ (8 : Int); omega) (by show ((m.1 140 5)).toInt = (0 : Int); omega) (by show (8 - (0 : Int)) * 100 + 50 < _; omega)
      · intro c4
        have k5 := z_nle c4
        refine ⟨?_, ?_⟩
        · exact vpi (by omega) (by omega)
        · have w6 : WT (uI m (140 + 5) x3.toNatClampNeg x3) := w.t rfl (by show (0 : Int) ≤ (x3).toInt; omega) (by show (x3).toInt ≤ 7; omega)
          have f6 : Fx (RS [7]) m0 (uI m (140 + 5) x3.toNatClampNeg x3) := f.i rfl
          have t7 := ti_addc (x := x3) (y := (1 : Int32)) (c := 1) rfl (by omega)
          have r8 := w.at (a := 140) (k := 5) rfl
          exact ih.1 _ _ _ _ w6 f6 (by show (0 : Int) ≤ (x1).toInt; omega) (by show (x1).toInt ≤ (8 : Int); omega) (by show (0 : Int) ≤ (x2).toInt; omega) (by show (x2).toInt ≤ (8 : Int); omega) (by show (0 : Int) ≤ ((x3 + (1 : Int32))).toInt; omega) (by show ((x3 + (1 : Int32))).toInt ≤ (8 : Int); omega) (by show ((m.1 140 5)).toInt = 0; omega) (by show 2000 - ((x3 + (1 : Int32))).toInt < _; omega)
    · intro m x1 x2 x3 w f j1 j2 j3 j4 j5 j6 j7 hn
      refine g_X3_fillEachWithEach_37 Pl_140 ?_
      refine ⟨?_, ?_⟩
      · intro c1
        have t2 := ti_subc (x := x2) (y := (1 : Int32)) (c := 1) rfl (by omega)
        have k3 := z_le c1
        exact ⟨w, f, rfl⟩
      · intro c4
        have t5 := ti_subc (x := x2) (y := (1 : Int32)) (c := 1) rfl (by omega)
        have k6 := z_nle c4
        have r7 := w.at (a := 140) (k := 5) rfl
        refine (s_X3_openRound w (Or.inr rfl) (by show ((m.1 140 5)).toInt ≤ 12; omega)).to ?_
        rintro _ m1 ⟨w_m1, g8, rfl, p9, p10⟩
        have f_m1 : Fx (RS [7]) m0 m1 := f.tr g8 (RS_sub rfl)
        have p11 : (m1.1 140 5).toInt = ((m.1 140 5)).toInt + 1 := p9
        clear p9
        have p12 : (m1.1 140 7).toInt = 0 := p10
        clear p10
        refine ⟨rfl, ?_⟩
        have r13 := w_m1.at (a := 140) (k := 5) rfl
        exact ih.2.2 _ _ _ _ _ w_m1 f_m1 (by show (0 : Int) ≤ (x1).toInt; omega) (by show (x1).toInt ≤ (8 : Int); omega) (by show (2 : Int) ≤ (x2).toInt; omega) (by show (x2).toInt ≤ (8 : Int); omega) (by show (0 : Int) ≤ (x3).toInt; omega) (by show (x3).toInt ≤ (7 : Int); omega) (by show (0 : Int) ≤ (0 : Int); omega) (by show (0 : Int) ≤ (8 : Int); omega) (by show ((m1.1 140 5)).toInt = (x3).toInt + 1; omega) (by show (x3).toInt + 1 < (x2).toInt; omega) (by show (8 - (x3).toInt) * 100 + 10 - (0 : Int) < _; omega)
    · intro m x1 x2 x3 x4 w f j1 j2 j3 j4 j5 j6 j7 j8 j9 j10 hn
      refine g_X3_fillEachWithEach_51 Pl_140 ?_
      refine ⟨?_, ?_⟩
      · intro c1
        have t2 := t_div (x := x2) (y := (2 : Int32)) (c := 2) rfl (by decide) (by decide) (by omega)
        have k3 := z_le c1
        refine (s_X3_turnPlaces w (Or.inr rfl) (by show (2 : Int) ≤ (x2).toInt; omega) (by show (x2).toInt ≤ (8 : Int); omega)).to ?_
        rintro _ m1 ⟨w_m1, g4, rfl, p5⟩
        have f_m1 : Fx (RS [7]) m0 m1 := f.tr g4 (RS_sub rfl)
        have p6 : (m1.1 140 5).toInt = ((m.1 140 5)).toInt := p5
        clear p5
        refine ⟨rfl, ?_⟩
        have t7 := ti_addc (x := x3) (y := (1 : Int32)) (c := 1) rfl (by omega)
        have r8 := w_m1.at (a := 140) (k := 5) rfl
        exact ih.2.1 _ _ _ _ w_m1 f_m1 (by show (0 : Int) ≤ (x1).toInt; omega) (by show (x1).toInt ≤ (8 : Int); omega) (by show (0 : Int) ≤ (x2).toInt; omega) (by show (x2).toInt ≤ (8 : Int); omega) (by show (0 : Int) ≤ ((x3 + (1 : Int32))).toInt; omega) (by show ((x3 + (1 : Int32))).toInt ≤ (8 : Int); omega) (by show ((m1.1 140 5)).toInt = ((x3 + (1 : Int32))).toInt; omega) (by show (8 - ((x3 + (1 : Int32))).toInt) * 100 + 50 < _; omega)
      · intro c9
        have t10 := t_div (x := x2) (y := (2 : Int32)) (c := 2) rfl (by decide) (by decide) (by omega)
        have k11 := z_nle c9
        refine ⟨?_, ?_⟩
        · exact vpi (by omega) (by omega)
        · refine ⟨?_, ?_⟩
          · have t12 := ti_subc (x := x2) (y := (1 : Int32)) (c := 1) rfl (by omega)
            have t13 := ti_sub (x := (x2 - (1 : Int32))) (y := x4) (by omega)
            exact vpi (by omega) (by omega)
          · refine ⟨?_, ?_⟩
            · intro c14
              have r15 := w.at (a := (140 + 5)) (k := x4.toNatClampNeg) rfl
              have k16 := z_le c14
              have t17 := ti_addc (x := x4) (y := (1 : Int32)) (c := 1) rfl (by omega)
              have r18 := w.at (a := 140) (k := 5) rfl
              exact ih.2.2 _ _ _ _ _ w f (by show (0 : Int) ≤ (x1).toInt; omega) (by show (x1).toInt ≤ (8 : Int); omega) (by show (2 : Int) ≤ (x2).toInt; omega) (by show (x2).toInt ≤ (8 : Int); omega) (by show (0 : Int) ≤ (x3).toInt; omega) (by show (x3).toInt ≤ (7 : Int); omega) (by show (0 : Int) ≤ ((x4 + (1 : Int32))).toInt; omega) (by show ((x4 + (1 : Int32))).toInt ≤ (8 : Int); omega) (by show ((m.1 140 5)).toInt = (x3).toInt + 1; omega) (by show (x3).toInt + 1 < (x2).toInt; omega) (by show (8 - (x3).toInt) * 100 + 10 - ((x4 + (1 : Int32))).toInt < _; omega)
            · intro c19
              have r20 := w.at (a := (140 + 5)) (k := x4.toNatClampNeg) rfl
              have k21 := z_nle c19
              refine ⟨?_, ?_⟩
              · intro c22
                have r23 := w.at (a := (140 + 5)) (k := (((x2 - (1 : Int32)) - x4).toNatClampNeg)) rfl
                have k24 := z_le c22
                have t25 := ti_addc (x := x4) (y := (1 : Int32)) (c := 1) rfl (by omega)
                have r26 := w.at (a := 140) (k := 5) rfl
                exact ih.2.2 _ _ _ _ _ w f (by show (0 : Int) ≤ (x1).toInt; omega) (by show (x1).toInt ≤ (8 : Int); omega) (by show (2 : Int) ≤ (x2).toInt; omega) (by show (x2).toInt ≤ (8 : Int); omega) (by show (0 : Int) ≤ (x3).toInt; omega) (by show (x3).toInt ≤ (7 : Int); omega) (by show (0 : Int) ≤ ((x4 + (1 : Int32))).toInt; omega) (by show ((x4 + (1 : Int32))).toInt ≤ (8 : Int); omega) (by show ((m.1 140 5)).toInt = (x3).toInt + 1; omega) (by show (x3).toInt + 1 < (x2).toInt; omega) (by show (8 - (x3).toInt) * 100 + 10 - ((x4 + (1 : Int32))).toInt < _; omega)
              · intro c27
                have r28 := w.at (a := (140 + 5)) (k := (((x2 - (1 : Int32)) - x4).toNatClampNeg)) rfl
                have k29 := z_nle c27
                refine (s_X3_addGame w (Or.inr rfl) (by show (0 : Int) ≤ ((m.1 (140 + 5) x4.toNatClampNeg)).toInt; omega) (by show ((m.1 (140 + 5) x4.toNatClampNeg)).toInt ≤ (7 : Int); omega) (by show (0 : Int) ≤ ((m.1 (140 + 5) (((x2 - (1 : Int32)) - x4).toNatClampNeg))).toInt; omega) (by show ((m.1 (140 + 5) (((x2 - (1 : Int32)) - x4).toNatClampNeg))).toInt ≤ (7 : Int); omega)).to ?_
                rintro _ m2 ⟨w_m2, g30, rfl, p31⟩
                have f_m2 : Fx (RS [7]) m0 m2 := f.tr g30 (RS_sub rfl)
                have p32 : (m2.1 140 5).toInt = ((m.1 140 5)).toInt := p31
                clear p31
                refine ⟨rfl, ?_⟩
                have t33 := ti_addc (x := x4) (y := (1 : Int32)) (c := 1) rfl (by omega)
                have r34 := w_m2.at (a := 140) (k := 5) rfl
                exact ih.2.2 _ _ _ _ _ w_m2 f_m2 (by show (0 : Int) ≤ (x1).toInt; omega) (by show (x1).toInt ≤ (8 : Int); omega) (by show (2 : Int) ≤ (x2).toInt; omega) (by show (x2).toInt ≤ (8 : Int); omega) (by show (0 : Int) ≤ (x3).toInt; omega) (by show (x3).toInt ≤ (7 : Int); omega) (by show (0 : Int) ≤ ((x4 + (1 : Int32))).toInt; omega) (by show ((x4 + (1 : Int32))).toInt ≤ (8 : Int); omega) (by show ((m2.1 140 5)).toInt = (x3).toInt + 1; omega) (by show (x3).toInt + 1 < (x2).toInt; omega) (by show (8 - (x3).toInt) * 100 + 10 - ((x4 + (1 : Int32))).toInt < _; omega)
set_option maxHeartbeats 4000000 in
theorem s_X3_fillEachWithEach_140 {ad : Nat → Nat} {d : Nat} {m : Wm} {x1 : Int32} (w : WT m) (i1 : (0 : Int) ≤ x1.toInt) (i2 : x1.toInt ≤ (8 : Int)) : Ct ad μX3_fillEachWithEach (d + 1) [.ref (ad 140), .int x1] m (fun r m' => WT m' ∧ Fx (RS [7]) m m' ∧ r = none) := by
  have f : Fx (RS [7]) m m := Fx.rf
  refine v_X3_fillEachWithEach Pl_140 ?_
  refine (s_X3_clear w (Or.inr rfl)).to ?_
  rintro _ m1 ⟨w_m1, g1, rfl, p2⟩
  have f_m1 : Fx (RS [7]) m m1 := f.tr g1 (RS_sub rfl)
  have p3 : (m1.1 140 5).toInt = 0 := p2
  clear p2
  refine ⟨rfl, ?_⟩
  have t4 := t_and1 x1
  have t5 := ti_add (x := x1) (y := (x1 &&& (1 : Int32))) (by omega)
  have t6 := ti_ltv (a := (8 : Int32)) (b := (x1 + (x1 &&& (1 : Int32)))) (c := (8 : Int32)) (d := (x1 + (x1 &&& (1 : Int32)))) (A := (8)) (B := (x1 + (x1 &&& (1 : Int32))).toInt) (C := (8)) (D := (x1 + (x1 &&& (1 : Int32))).toInt) rfl rfl rfl rfl
  have r7 := w_m1.at (a := 140) (k := 5) rfl
  exact (l_X3_fillEachWithEach_140 (m0 := m) 1000000).1 _ _ _ _ w_m1 f_m1 (by show (0 : Int) ≤ (x1).toInt; omega) (by show (x1).toInt ≤ (8 : Int); omega) (by show (0 : Int) ≤ ((if (8 : Int32) < (x1 + (x1 &&& (1 : Int32))) then (8 : Int32) else (x1 + (x1 &&& (1 : Int32))))).toInt; omega) (by show ((if (8 : Int32) < (x1 + (x1 &&& (1 : Int32))) then (8 : Int32) else (x1 + (x1 &&& (1 : Int32))))).toInt ≤ (8 : Int); omega) (by show (0 : Int) ≤ (0 : Int); omega) (by show (0 : Int) ≤ (8 : Int); omega) (by show ((m1.1 140 5)).toInt = 0; omega) (by show 2000 - (0 : Int) < _; omega)
theorem s_X3_fillEachWithEach {ad : Nat → Nat} {d : Nat} {m : Wm} {b0 : Nat} {x1 : Int32} (w : WT m) (hb0 : b0 = 134 ∨ b0 = 140) (i1 : (0 : Int) ≤ x1.toInt) (i2 : x1.toInt ≤ (8 : Int)) : Ct ad μX3_fillEachWithEach (d + 1) [.ref (ad b0), .int x1] m (fun r m' => WT m' ∧ Fx (RS [7]) m m' ∧ r = none) := by
  rcases hb0 with rfl | rfl
  · exact s_X3_fillEachWithEach_134 w i1 i2
  · exact s_X3_fillEachWithEach_140 w i1 i2
end
