/-! STATES AS NUMBERS: sixteen skills in one long, on both sides -/
def sdg (x : Int32) : Nat := x.toNatClampNeg
/-- from the least on (class) -/
def pkN (f : Nat → Int32) (o : Nat) : Nat → Nat
  | 0 => 0
  | n + 1 => pkN f o n + sdg (f (o + n)) * 8 ^ n
/-- from the greatest on (model) -/
def mkN (f : Nat → Int32) (o : Nat) : Nat → Nat
  | 0 => 0
  | n + 1 => mkN f o n * 8 + sdg (f (o + n))
/-- all from 0 to 7 -/
def SR7 (f : Nat → Int32) : Prop := ∀ k, k < 32 → 0 ≤ (f k).toInt ∧ (f k).toInt ≤ 7
/-- alike as states -/
def EQ32 (f f' : Nat → Int32) : Prop := ∀ k, k < 32 → f k = f' k
theorem sdg_ok {x : Int32} (h : 0 ≤ x.toInt ∧ x.toInt ≤ 7) : sdg x < 8 ∧ x = nI (sdg x) := by
  obtain ⟨j, hj, rfl⟩ := zn_of h.1
  have h2 := h.2
  rw [nI_toInt hj] at h2
  unfold sdg
  rw [nI_clamp hj]
  exact ⟨by omega, rfl⟩
theorem sdg_inj {x y : Int32} (hx : 0 ≤ x.toInt ∧ x.toInt ≤ 7) (hy : 0 ≤ y.toInt ∧ y.toInt ≤ 7) (h : sdg x = sdg y) : x = y := by
  rw [(sdg_ok hx).2, (sdg_ok hy).2, h]
section PKN
variable {f f' : Nat → Int32} {o : Nat}
theorem spk_lt : ∀ n, (∀ k, k < n → sdg (f (o + k)) < 8) → pkN f o n < 8 ^ n := by
  intro n
  induction n with
  | zero => intro _; exact Nat.one_pos
  | succ n ih =>
    intro h
    have h1 := ih (fun k hk => h k (by omega))
    have h2 := h n (by omega)
    have h3 : sdg (f (o + n)) * 8 ^ n ≤ 7 * 8 ^ n := Nat.mul_le_mul_right _ (by omega)
    show pkN f o n + sdg (f (o + n)) * 8 ^ n < 8 ^ (n + 1)
    rw [Nat.pow_succ]
    generalize sdg (f (o + n)) * 8 ^ n = z at h3 ⊢
    generalize 8 ^ n = a at h1 h3 ⊢
    omega
theorem mk_lt : ∀ n, (∀ k, k < n → sdg (f (o + k)) < 8) → mkN f o n < 8 ^ n := by
  intro n
  induction n with
  | zero => intro _; exact Nat.one_pos
  | succ n ih =>
    intro h
    have h1 := ih (fun k hk => h k (by omega))
    have h2 := h n (by omega)
    show mkN f o n * 8 + sdg (f (o + n)) < 8 ^ (n + 1)
    rw [Nat.pow_succ]
    generalize 8 ^ n = a at h1 ⊢
    omega
theorem pk_ch : ∀ n, (∀ k, k < n → f (o + k) = f' (o + k)) → pkN f o n = pkN f' o n := by
  intro n
  induction n with
  | zero => intro _; rfl
  | succ n ih =>
    intro h
    show pkN f o n + sdg (f (o + n)) * 8 ^ n = pkN f' o n + sdg (f' (o + n)) * 8 ^ n
    rw [ih (fun k hk => h k (by omega)), h n (by omega)]
theorem mk_ch : ∀ n, (∀ k, k < n → f (o + k) = f' (o + k)) → mkN f o n = mkN f' o n := by
  intro n
  induction n with
  | zero => intro _; rfl
  | succ n ih =>
    intro h
    show mkN f o n * 8 + sdg (f (o + n)) = mkN f' o n * 8 + sdg (f' (o + n))
    rw [ih (fun k hk => h k (by omega)), h n (by omega)]
theorem pk_dig : ∀ n, (∀ k, k < n → sdg (f (o + k)) < 8) → ∀ k, k < n → pkN f o n / 8 ^ k % 8 = sdg (f (o + k)) := by
  intro n
  induction n with
  | zero => intro _ k hk; exact absurd hk (Nat.not_lt_zero k)
  | succ n ih =>
    intro h k hk
    have h0 : ∀ k, k < n → sdg (f (o + k)) < 8 := fun k hk => h k (by omega)
    have h1 := spk_lt n h0
    show (pkN f o n + sdg (f (o + n)) * 8 ^ n) / 8 ^ k % 8 = _
    by_cases c : k = n
    · subst c
      rw [Nat.add_mul_div_right _ _ (Nat.pow_pos (by decide)), Nat.div_eq_of_lt h1, Nat.zero_add]
      exact Nat.mod_eq_of_lt (h k (by omega))
    · obtain ⟨j, rfl⟩ : ∃ j, n = k + 1 + j := ⟨n - k - 1, by omega⟩
      have e : sdg (f (o + (k + 1 + j))) * 8 ^ (k + 1 + j) = 8 ^ k * (8 * (8 ^ j * sdg (f (o + (k + 1 + j))))) := by
        rw [Nat.pow_add, Nat.pow_succ, Nat.mul_comm (sdg _), Nat.mul_assoc, Nat.mul_assoc]
      rw [e, Nat.add_mul_div_left _ _ (Nat.pow_pos (by decide)), Nat.add_mul_mod_self_left]
      exact ih h0 k (by omega)
theorem mk_dig : ∀ n, (∀ k, k < n → sdg (f (o + k)) < 8) → ∀ t, t < n → mkN f o n / 8 ^ t % 8 = sdg (f (o + (n - 1 - t))) := by
  intro n
  induction n with
  | zero => intro _ t ht; exact absurd ht (Nat.not_lt_zero t)
  | succ n ih =>
    intro h t ht
    have hn := h n (by omega)
    show (mkN f o n * 8 + sdg (f (o + n))) / 8 ^ t % 8 = _
    cases t with
    | zero =>
      rw [Nat.pow_zero, Nat.div_one, show n + 1 - 1 - 0 = n by omega]
      omega
    | succ t =>
      rw [Nat.pow_succ, Nat.mul_comm (8 ^ t), ← Nat.div_div_eq_div_mul, show (mkN f o n * 8 + sdg (f (o + n))) / 8 = mkN f o n by omega, show n + 1 - 1 - (t + 1) = n - 1 - t by omega]
      exact ih (fun k hk => h k (by omega)) t (by omega)
theorem pk_cons : ∀ n, pkN f o (n + 1) = sdg (f o) + 8 * pkN f (o + 1) n := by
  intro n
  induction n with
  | zero =>
    show 0 + sdg (f (o + 0)) * 8 ^ 0 = sdg (f o) + 8 * 0
    rw [Nat.add_zero o, Nat.pow_zero]
    omega
  | succ n ih =>
    have e1 : pkN f o (n + 1 + 1) = pkN f o (n + 1) + sdg (f (o + (n + 1))) * 8 ^ (n + 1) := rfl
    have e2 : pkN f (o + 1) (n + 1) = pkN f (o + 1) n + sdg (f (o + 1 + n)) * 8 ^ n := rfl
    rw [e1, e2, ih, Nat.pow_succ, ← Nat.mul_assoc, show o + 1 + n = o + (n + 1) by omega]
    generalize sdg (f (o + (n + 1))) * 8 ^ n = z
    omega
theorem pk_add (n : Nat) : ∀ j, pkN f o (n + j) = pkN f o n + pkN f (o + n) j * 8 ^ n := by
  intro j
  induction j with
  | zero =>
    show pkN f o n = pkN f o n + 0 * 8 ^ n
    rw [Nat.zero_mul]
    rfl
  | succ j ih =>
    have e1 : pkN f o (n + (j + 1)) = pkN f o (n + j) + sdg (f (o + (n + j))) * 8 ^ (n + j) := rfl
    have e2 : pkN f (o + n) (j + 1) = pkN f (o + n) j + sdg (f (o + n + j)) * 8 ^ j := rfl
    rw [e1, e2, ih, Nat.add_mul, Nat.pow_add, Nat.mul_comm (8 ^ n), ← Nat.mul_assoc, show o + n + j = o + (n + j) by omega, Nat.add_assoc]
theorem pk_bit : ∀ n, (∀ k, k < n → sdg (f (o + k)) < 8) → ∀ i, (pkN f o n).testBit i = (decide (i < 3 * n) && (sdg (f (o + i / 3))).testBit (i % 3)) := by
  intro n
  induction n with
  | zero =>
    intro _ i
    have e : decide (i < 3 * 0) = false := decide_eq_false (by omega)
    rw [e, Bool.false_and]
    exact Nat.zero_testBit i
  | succ n ih =>
    intro h i
    have h0 : ∀ k, k < n → sdg (f (o + k)) < 8 := fun k hk => h k (by omega)
    have h1 := spk_lt n h0
    have e8 : (8 : Nat) ^ n = 2 ^ (3 * n) := by rw [Nat.pow_mul]
    have e : pkN f o (n + 1) = 2 ^ (3 * n) * sdg (f (o + n)) + pkN f o n := by
      show pkN f o n + sdg (f (o + n)) * 8 ^ n = _
      rw [e8, Nat.mul_comm, Nat.add_comm]
    rw [e8] at h1
    rw [e, Nat.testBit_two_pow_mul_add _ h1]
    by_cases c : i < 3 * n
    · rw [if_pos c, ih h0 i, decide_eq_true c, decide_eq_true (show i < 3 * (n + 1) by omega)]
    · rw [if_neg c]
      by_cases c2 : i < 3 * (n + 1)
      · rw [decide_eq_true c2, Bool.true_and, show i / 3 = n by omega, show i % 3 = i - 3 * n by omega]
      · rw [decide_eq_false c2, Bool.false_and]
        have h8 := h n (by omega)
        refine Nat.testBit_lt_two_pow (Nat.lt_of_lt_of_le (show sdg (f (o + n)) < 2 ^ 3 from h8) (Nat.pow_le_pow_right (by decide) (by omega)))
end PKN
theorem SR7.d {f : Nat → Int32} (h : SR7 f) {o n : Nat} (hn : o + n ≤ 32) : ∀ k, k < n → sdg (f (o + k)) < 8 := fun k hk => (sdg_ok (h (o + k) (by omega))).1
theorem pk_inj {f f' : Nat → Int32} (h : SR7 f) (h' : SR7 f') (e0 : pkN f 0 16 = pkN f' 0 16) (e1 : pkN f 16 16 = pkN f' 16 16) : EQ32 f f' := fun k hk => by
  refine sdg_inj (h k hk) (h' k hk) ?_
  by_cases c : k < 16
  · have a := pk_dig 16 (h.d (o := 0) (by decide)) k c
    have b := pk_dig 16 (h'.d (o := 0) (by decide)) k c
    rw [Nat.zero_add] at a b
    rw [← a, ← b, e0]
  · obtain ⟨j, rfl⟩ : ∃ j, k = 16 + j := ⟨k - 16, by omega⟩
    rw [← pk_dig 16 (h.d (o := 16) (by decide)) j (by omega), ← pk_dig 16 (h'.d (o := 16) (by decide)) j (by omega), e1]
theorem mk_inj {f f' : Nat → Int32} (h : SR7 f) (h' : SR7 f') (e0 : mkN f 0 16 = mkN f' 0 16) (e1 : mkN f 16 16 = mkN f' 16 16) : EQ32 f f' := fun k hk => by
  refine sdg_inj (h k hk) (h' k hk) ?_
  by_cases c : k < 16
  · have a := mk_dig 16 (h.d (o := 0) (by decide)) (15 - k) (by omega)
    have b := mk_dig 16 (h'.d (o := 0) (by decide)) (15 - k) (by omega)
    rw [show 0 + (16 - 1 - (15 - k)) = k by omega] at a b
    rw [← a, ← b, e0]
  · obtain ⟨j, rfl⟩ : ∃ j, k = 16 + j := ⟨k - 16, by omega⟩
    have a := mk_dig 16 (h.d (o := 16) (by decide)) (15 - j) (by omega)
    have b := mk_dig 16 (h'.d (o := 16) (by decide)) (15 - j) (by omega)
    rw [show 16 + (16 - 1 - (15 - j)) = 16 + j by omega] at a b
    rw [← a, ← b, e1]
theorem pk_e32 {f f' : Nat → Int32} (h : EQ32 f f') : pkN f 0 16 = pkN f' 0 16 ∧ pkN f 16 16 = pkN f' 16 16 := ⟨pk_ch 16 (fun k hk => h _ (by omega)), pk_ch 16 (fun k hk => h _ (by omega))⟩
theorem mk_e32 {f f' : Nat → Int32} (h : EQ32 f f') : mkN f 0 16 = mkN f' 0 16 ∧ mkN f 16 16 = mkN f' 16 16 := ⟨mk_ch 16 (fun k hk => h _ (by omega)), mk_ch 16 (fun k hk => h _ (by omega))⟩
theorem p816 : (8 : Nat) ^ 16 = 281474976710656 := by decide
theorem pk_48 {f : Nat → Int32} (h : SR7 f) {o : Nat} (ho : o ≤ 16) : pkN f o 16 < 281474976710656 := by have := spk_lt 16 (h.d (o := o) (by omega)); rw [p816] at this; exact this
theorem mk_48 {f : Nat → Int32} (h : SR7 f) {o : Nat} (ho : o ≤ 16) : mkN f o 16 < 281474976710656 := by have := mk_lt 16 (h.d (o := o) (by omega)); rw [p816] at this; exact this
theorem lN_inj {a b : Nat} (ha : a < 281474976710656) (hb : b < 281474976710656) (h : lN a = lN b) : a = b := by
  have := congrArg (fun z => z.toBitVec.toNat) h
  have h1 : (lN a).toBitVec.toNat = a := wb_tn (by omega)
  have h2 : (lN b).toBitVec.toNat = b := wb_tn (by omega)
  exact h1.symm.trans (this.trans h2)
/-- one side's skills put in place of what stood there -/
theorem pk_put {f f' : Nat → Int32} {o j C : Nat} (h : SR7 f) (h' : SR7 f') (ho : o ≤ 16) (hj : j < 4) (hs : ∀ k, k < 16 → k / 4 ≠ j → f (o + k) = f' (o + k)) (hsC : ∀ i, i < 48 → C.testBit i = decide (¬ (12 * j ≤ i ∧ i < 12 * j + 12))) : (pkN f o 16 &&& C) ||| (pkN f' (o + 4 * j) 4 * 2 ^ (12 * j)) = pkN f' o 16 := by
  refine Nat.eq_of_testBit_eq (fun i => ?_)
  rw [Nat.testBit_or, Nat.testBit_and, ← Nat.shiftLeft_eq, Nat.testBit_shiftLeft, pk_bit 16 (h.d (by omega)), pk_bit 16 (h'.d (by omega)), pk_bit 4 (h'.d (by omega))]
  by_cases c : i < 48
  · rw [hsC i c]
    by_cases q : 12 * j ≤ i ∧ i < 12 * j + 12
    · have e1 : decide (¬ (12 * j ≤ i ∧ i < 12 * j + 12)) = false := decide_eq_false (fun z => z q)
      have e2 : decide (i ≥ 12 * j) = true := decide_eq_true q.1
      have e3 : decide (i - 12 * j < 3 * 4) = true := decide_eq_true (by omega)
      have e4 : decide (i < 3 * 16) = true := decide_eq_true (by omega)
      rw [e1, e2, e3, e4, Bool.and_false, Bool.false_or, show o + 4 * j + (i - 12 * j) / 3 = o + i / 3 by omega, show (i - 12 * j) % 3 = i % 3 by omega]
      rfl
    · have e1 : decide (¬ (12 * j ≤ i ∧ i < 12 * j + 12)) = true := decide_eq_true q
      have e4 : decide (i < 3 * 16) = true := decide_eq_true (by omega)
      have e5 : (decide (i ≥ 12 * j) && (decide (i - 12 * j < 3 * 4) && (sdg (f' (o + 4 * j + (i - 12 * j) / 3))).testBit ((i - 12 * j) % 3))) = false := by
        by_cases q2 : 12 * j ≤ i
        · have e3 : decide (i - 12 * j < 3 * 4) = false := decide_eq_false (by omega)
          rw [e3, Bool.false_and, Bool.and_false]
        · have e3 : decide (i ≥ 12 * j) = false := decide_eq_false (by omega)
          rw [e3, Bool.false_and]
      rw [e1, e4, e5, Bool.and_true, Bool.or_false, hs (i / 3) (by omega) (by omega)]
  · have e4 : decide (i < 3 * 16) = false := decide_eq_false (by omega)
    have e3 : decide (i - 12 * j < 3 * 4) = false := decide_eq_false (by omega)
    rw [e3, e4]
    simp
theorem pk_mask : ∀ j, j < 4 → ((lN (4095 * 2 ^ (j * 12))) ^^^ (-1 : Int64)) = lN (2 ^ 64 - 1 - 4095 * 2 ^ (12 * j)) ∧ ∀ i, i < 48 → (2 ^ 64 - 1 - 4095 * 2 ^ (12 * j)).testBit i = decide (¬ (12 * j ≤ i ∧ i < 12 * j + 12)) := by decide +kernel
section PKC
variable {ad : Nat → Nat} {d b ρ : Nat} {m : Wm} {f : Nat → Int32} {p : (Nat → Int32) × (Nat → Int32) × (Nat → Int32) × Int32}
theorem rem4 {s : Nat} (hs : s < 8) : (nI s - nI s / (4 : Int32) * (4 : Int32)) * (12 : Int32) = nI (s % 4 * 12) := by
  rw [show nI s - nI s / (4 : Int32) * (4 : Int32) = nI (s % 4) from nI_rem (G := 4) (by omega) (by decide) (by decide)]
  exact mul_l 12 12 rfl _
theorem sh3 {Y v : Nat} (hv : v < 8) (hY : Y < 281474976710656) : (lN Y <<< ((3 : Int32).toInt64 &&& 63)) ||| (nI v).toInt64 = lN (v + 8 * Y) := by
  rw [show (3 : Int32) = nI 3 from rfl, wb_shl Y (by decide), nI_l (by omega), g_or (k := 3) rfl hv (by omega)]
  rw [Nat.mul_comm Y, Nat.add_comm]
theorem packC (hb : SS b ρ) (h : HC b m (f, p)) (h7 : SR7 f) {s : Nat} (hs : s < 8) : Ct ad μX9_packed (d + 1) [.ref (ad b), .int (nI s)] m (fun r m' => m' = m ∧ r = some (.long (lN (pkN f (4 * s) 4 * 2 ^ (12 * (s % 4)))))) := by
  have D : ∀ a, a < 4 → sdg (f (4 * s + a)) < 8 ∧ f (4 * s + a) = nI (sdg (f (4 * s + a))) := fun a ha => sdg_ok (h7 _ (by omega))
  have P : ∀ n, n ≤ 4 → pkN f (4 * s + (4 - n)) n < 4096 := fun n hn => by
    have := spk_lt (f := f) (o := 4 * s + (4 - n)) n (h7.d (by omega))
    have h2 : (8 : Nat) ^ n ≤ 8 ^ 4 := Nat.pow_le_pow_right (by decide) hn
    have h3 : (8 : Nat) ^ 4 = 4096 := by decide
    omega
  have S : ∀ (a : Nat) (n : Nat) (x x' : Int32), a + n + 1 = 4 → x = nI a → x' = x + (-1 : Int32) → ¬ x < 0 → AW ad E0 μX9_packed (d + 1) (fun r m' => m' = m ∧ r = some (.long (lN (pkN f (4 * s) 4 * 2 ^ (12 * (s % 4)))))) 5 [(0, .ref (ad b)), (1, .int (nI s)), (2, .long (lN (pkN f (4 * s + a) (n + 1)))), (4, .int x')] [] m → AW ad E0 μX9_packed (d + 1) (fun r m' => m' = m ∧ r = some (.long (lN (pkN f (4 * s) 4 * 2 ^ (12 * (s % 4)))))) 5 [(0, .ref (ad b)), (1, .int (nI s)), (2, .long (lN (pkN f (4 * s + a + 1) n))), (4, .int x)] [] m := by
    intro a n x x' ha hx hx' hx0 K
    refine g_X9_packed_5 hb.1 ⟨fun c => absurd c hx0, fun _ => ?_⟩
    rw [hx]
    refine (skillC (d := d) hb h hs (a := a) (by omega)).to ?_
    rintro _ m1 ⟨eq, rfl⟩
    obtain rfl := eq.symm
    refine ⟨_, rfl, ?_⟩
    have hY := P n (by omega)
    rw [show 4 * s + (4 - n) = 4 * s + a + 1 by omega] at hY
    have e : (lN (pkN f (4 * s + a + 1) n) <<< ((3 : Int32).toInt64 &&& 63)) ||| (f (4 * s + a)).toInt64 = lN (pkN f (4 * s + a) (n + 1)) := by
      rw [(D a (by omega)).2, sh3 (D a (by omega)).1 (by omega), pk_cons]
    show AW ad E0 μX9_packed (d + 1) _ 5 [(0, .ref (ad b)), (1, .int (nI s)), (2, .long ((lN (pkN f (4 * s + a + 1) n) <<< ((3 : Int32).toInt64 &&& 63)) ||| (f (4 * s + a)).toInt64)), (4, .int (nI a + (-1 : Int32)))] [] m
    rw [e, ← hx, ← hx']
    exact K
  refine v_X9_packed hb.1 (S 3 0 3 2 rfl rfl (by decide) (by decide) (S 2 1 2 1 rfl rfl (by decide) (by decide) (S 1 2 1 0 rfl rfl (by decide) (by decide) (S 0 3 0 (-1) rfl rfl (by decide) (by decide) ?_))))
  refine g_X9_packed_5 hb.1 ⟨fun _ => ⟨rfl, ?_⟩, fun c => absurd (by decide) c⟩
  rw [rem4 hs, show 4 * s + 0 = 4 * s from rfl, wb_shl _ (by omega), Nat.mul_comm 12]
theorem withC {W s : Nat} (hs : s < 8) (hW : W < 281474976710656) {m : Wm} : Ct ad μX9_without d [.long (lN W), .int (nI s)] m (fun r m' => m' = m ∧ r = some (.long (lN (W &&& (2 ^ 64 - 1 - 4095 * 2 ^ (12 * (s % 4))))))) := by
  refine v_X9_without ⟨rfl, ?_⟩
  have e : (4095 : Int64) = lN 4095 := rfl
  rw [rem4 hs, e, wb_shl 4095 (by omega), (pk_mask (s % 4) (by omega)).1, wb_and (by omega) (by omega)]
theorem getC {S : Nat} (hA : m.2.1 152 S = lN (pkN f 0 16)) (hB : m.2.1 153 S = lN (pkN f 16 16)) (h7 : SR7 f) (hS : S < 3000) {s a : Nat} (hs : s < 8) (ha : a < 4) : Ct ad μX9_skillIn d [.ref (ad 151), .int (nI S), .int (nI s), .int (nI a)] m (fun r m' => m' = m ∧ r = some (.int (f (4 * s + a)))) := by
  have V : vp_in (nI S) 3000 := nat_in hS (by decide)
  have K : ∀ o, o + 4 * (s % 4) = 4 * s → o ≤ 16 → AW ad E0 μX9_skillIn d (fun r m' => m' = m ∧ r = some (.int (f (4 * s + a)))) 20 [(2, .int (nI s)), (3, .int (nI a))] [.long (lN (pkN f o 16))] m := by
    intro o ho h16
    refine g_X9_skillIn_20 ⟨rfl, ?_⟩
    have h48 := pk_48 h7 h16
    have e3 : (3 : Int32) * nI a = nI (3 * a) := l_mul 3 3 rfl a
    have e8 : (2 : Nat) ^ (s % 4 * 12 + 3 * a) = 8 ^ (4 * (s % 4) + a) := by
      rw [show s % 4 * 12 + 3 * a = 3 * (4 * (s % 4) + a) by omega, Nat.pow_mul]
    rw [rem4 hs, e3, nI_add, wb_shr (by omega) (by omega), lN_i, show (7 : Int32) = nI (2 ^ 3 - 1) from rfl, fa_mask, e8]
    have := pk_dig 16 (h7.d (o := o) (by omega)) (4 * (s % 4) + a) (by omega)
    rw [show o + (4 * (s % 4) + a) = 4 * s + a by omega] at this
    rw [show (2 : Nat) ^ 3 = 8 from rfl, this, ← (sdg_ok (h7 _ (by omega))).2]
  refine v_X9_skillIn ⟨fun c => ⟨V, ?_⟩, fun c => ⟨V, ?_⟩⟩
  · have := (le_l 4 4 rfl (by decide) (by omega)).mp c
    rw [nI_clamp (by omega), hB]
    exact K 16 (by omega) (by decide)
  · have : ¬ 4 ≤ s := fun z => c ((le_l 4 4 rfl (by decide) (by omega)).mpr z)
    rw [nI_clamp (by omega), hA]
    exact K 0 (by omega) (by decide)
theorem unpackC {S : Nat} (w : WT m) (hb : SS b ρ) (hρ : GR ρ) {g : GS} (hA : m.2.1 152 S = lN (pkN f 0 16)) (hB : m.2.1 153 S = lN (pkN f 16 16)) (h7 : SR7 f) (hS : S < 3000) {s : Nat} (hs : s < 8) (h0 : HC b m g) : Ct ad μX9_unpack (d + 1) [.ref (ad 151), .int (nI S), .int (nI s), .ref (ad b)] m (fun r m' => r = none ∧ WT m' ∧ Fx (RS [2, ρ]) m m' ∧ HC b m' (cpS s 4 (f, p) g)) := by
  have L : ∀ (n j : Nat) (m1 : Wm), j + n = 4 → WT m1 → Fx (RS [2, ρ]) m m1 → HC b m1 (cpS s j (f, p) g) → AW ad E0 μX9_unpack (d + 1) (fun r m' => r = none ∧ WT m' ∧ Fx (RS [2, ρ]) m m' ∧ HC b m' (cpS s 4 (f, p) g)) 3 [(0, .ref (ad 151)), (1, .int (nI S)), (2, .int (nI s)), (3, .ref (ad b)), (4, .int (nI j))] [] m1 := by
    intro n
    induction n with
    | zero =>
      intro j m1 hj w1 f1 c0
      obtain rfl : j = 4 := hj
      exact g_X9_unpack_3 hb.1 ⟨fun _ => ⟨rfl, w1, f1, c0⟩, fun c => absurd ((le_l 4 4 rfl (by decide) (by decide)).mpr (by omega)) c⟩
    | succ n ih =>
      intro j m1 hj w1 f1 c0
      have r10 : ∀ a k, ([152, 153] : List Nat).elem a = true → m1.2.1 a k = m.2.1 a k := fun a k ha => (f1 a k (fun q => by
        have ha' : a = 152 ∨ a = 153 := by simpa using List.mem_of_elem_eq_true ha
        have e10 : rg a k = 10 := by rcases ha' with rfl | rfl <;> rfl
        unfold RS at q
        rw [e10] at q
        rcases hρ with rfl | rfl | rfl | rfl | rfl | rfl | rfl <;> exact absurd q (by decide))).2.1
      refine g_X9_unpack_3 hb.1 ⟨fun c => absurd ((le_l 4 4 rfl (by decide) (by omega)).mp c) (by omega), fun _ => (getC (d := d) (f := f) (S := S) ((r10 152 S rfl).trans hA) ((r10 153 S rfl).trans hB) h7 hS hs (a := j) (by omega)).to ?_⟩
      rintro _ m2 ⟨eq, rfl⟩
      obtain rfl := eq.symm
      refine ⟨_, rfl, (putC (d := d) hb hs (a := j) (by omega)).to ?_⟩
      rintro _ m3 ⟨rfl, rfl⟩
      rw [nI_1]
      refine ⟨rfl, ih (j + 1) _ (by omega) (hb.wu w1 (by decide)) (hb.fu f1 (by decide)) (HC.cg c0.sk (fun k hk => ?_) rfl)⟩
      show (if 4 * s ≤ k ∧ k < 4 * s + (j + 1) then f k else g.1 k) = (if k = 4 * s + j then f (4 * s + j) else (if 4 * s ≤ k ∧ k < 4 * s + j then f k else g.1 k))
      by_cases q : k = 4 * s + j
      · rw [if_pos q, if_pos (by omega), q]
      · rw [if_neg q]
        by_cases q2 : 4 * s ≤ k ∧ k < 4 * s + j
        · rw [if_pos q2, if_pos (by omega)]
        · rw [if_neg q2, if_neg (by omega)]
  refine v_X9_unpack hb.1 (L 4 0 m rfl w Fx.rf (h0.cg (fun k _ => ?_) rfl))
  exact if_neg (by omega)
end PKC
section PKM
variable {ad : Nat → Nat} {d : Nat} {m : Wm} {f : Nat → Int32}
theorem halfM (h : ∀ k, k < 32 → m.1 188 k = f k) (h7 : SR7 f) {o : Nat} (ho : o ≤ 16) : Ct ad μX12_half d [.ref (ad 187), .int (nI o)] m (fun r m' => m' = m ∧ r = some (.long (lN (mkN f o 16)))) := by
  have L : ∀ n j : Nat, j + n = 16 → AW ad E0 μX12_half d (fun r m' => m' = m ∧ r = some (.long (lN (mkN f o 16)))) 5 [(0, .ref (ad 187)), (1, .int (nI o)), (2, .long (lN (mkN f o j))), (4, .int (nI j))] [] m := by
    intro n
    induction n with
    | zero =>
      intro j hj
      obtain rfl : j = 16 := hj
      exact g_X12_half_5 ⟨fun _ => ⟨rfl, rfl⟩, fun c => absurd (by decide) c⟩
    | succ n ih =>
      intro j hj
      refine g_X12_half_5 ⟨fun c => absurd ((le_l 16 16 rfl (by decide) (by omega)).mp c) (by omega), fun _ => ?_⟩
      have D := sdg_ok (h7 (o + j) (by omega))
      have B := mk_lt (f := f) (o := o) j (h7.d (by omega))
      have B2 : (8 : Nat) ^ j ≤ 8 ^ 16 := Nat.pow_le_pow_right (by decide) (by omega)
      rw [p816] at B2
      rw [nI_add, nI_clamp (by omega), h (o + j) (by omega), nI_1]
      refine ⟨nat_in (by omega) (by decide), ?_⟩
      have e : (lN (mkN f o j) <<< ((3 : Int32).toInt64 &&& 63)) ||| (f (o + j)).toInt64 = lN (mkN f o (j + 1)) := by
        rw [D.2, sh3 D.1 (by omega)]
        show _ = lN (mkN f o j * 8 + sdg (f (o + j)))
        rw [Nat.mul_comm (mkN f o j), Nat.add_comm]
      rw [e]
      exact ih (j + 1) (by omega)
  exact v_X12_half (L 16 0 rfl)
theorem m7_ok {W k v : Nat} (h : W / 8 ^ k % 8 = v) (hW : W < 281474976710656) : ((lN (W / 8 ^ k)) &&& (7 : Int64)).toInt32 = nI v := by
  have hd : W / 8 ^ k ≤ W := Nat.div_le_self _ _
  rw [show (7 : Int64) = lN (8 - 1) from rfl, g_mask (s := 3) rfl (by decide) (by omega), h, lN_i]
theorem loadM (w : WT m) {S : Nat} (hA : m.2.1 205 S = lN (mkN f 0 16)) (hB : m.2.1 206 S = lN (mkN f 16 16)) (h7 : SR7 f) (hS : S < 3000) : Ct ad μX12_load d [.ref (ad 187), .int (nI S)] m (fun r m' => r = none ∧ WT m' ∧ Fx (RS [24]) m m' ∧ (∀ a k, a ≠ 188 → m'.1 a k = m.1 a k) ∧ ∀ k, k < 32 → m'.1 188 k = f k) := by
  have V : vp_in (nI S) 3000 := nat_in hS (by decide)
  have hW0 := mk_48 h7 (o := 0) (by decide)
  have hW1 := mk_48 h7 (o := 16) (by decide)
  have fin : ∀ (m1 : Wm) (y2 y4 : Int64) (x : Int32), x < 0 → WT m1 → Fx (RS [24]) m m1 → (∀ a k, a ≠ 188 → m1.1 a k = m.1 a k) → (∀ k, k < 32 → m1.1 188 k = f k) → AW ad E0 μX12_load d (fun r m' => r = none ∧ WT m' ∧ Fx (RS [24]) m m' ∧ (∀ a k, a ≠ 188 → m'.1 a k = m.1 a k) ∧ ∀ k, k < 32 → m'.1 188 k = f k) 19 [(0, .ref (ad 187)), (2, .long y2), (4, .long y4), (6, .int x)] [] m1 := fun m1 y2 y4 x hx w1 f1 h1 h2 => g_X12_load_19 ⟨fun _ => ⟨rfl, w1, f1, h1, h2⟩, fun c => absurd hx c⟩
  have L : ∀ n t : Nat, t + n = 15 → ∀ (m1 : Wm), WT m1 → Fx (RS [24]) m m1 → (∀ a k, a ≠ 188 → m1.1 a k = m.1 a k) → (∀ k, 16 - t ≤ k → k < 16 → m1.1 188 k = f k) → (∀ k, 32 - t ≤ k → k < 32 → m1.1 188 k = f k) → AW ad E0 μX12_load d (fun r m' => r = none ∧ WT m' ∧ Fx (RS [24]) m m' ∧ (∀ a k, a ≠ 188 → m'.1 a k = m.1 a k) ∧ ∀ k, k < 32 → m'.1 188 k = f k) 19 [(0, .ref (ad 187)), (2, .long (lN (mkN f 0 16 / 8 ^ t))), (4, .long (lN (mkN f 16 16 / 8 ^ t))), (6, .int (nI n))] [] m1 := by
    intro n
    induction n with
    | zero =>
      intro t ht m1 w1 f1 h1 h2 h3
      obtain rfl : t = 15 := ht
      refine g_X12_load_19 ⟨fun c => absurd c (by decide), fun _ => ⟨nat_in (by decide) (by decide), (show (16 : Int32) + nI 0 = nI 16 from rfl) ▸ nat_in (by decide) (by decide), ?_⟩⟩
      have d0 := mk_dig 16 (h7.d (o := 0) (by decide)) 15 (by decide)
      have d1 := mk_dig 16 (h7.d (o := 16) (by decide)) 15 (by decide)
      have e0 : ((lN (mkN f 0 16 / 8 ^ 15)) &&& (7 : Int64)).toInt32 = f 0 := (m7_ok d0 hW0).trans (sdg_ok (h7 0 (by decide))).2.symm
      have e1 : ((lN (mkN f 16 16 / 8 ^ 15)) &&& (7 : Int64)).toInt32 = f 16 := (m7_ok d1 hW1).trans (sdg_ok (h7 16 (by decide))).2.symm
      rw [e0, e1]
      have c0 : (nI 0).toNatClampNeg = 0 := rfl
      have c1 : ((16 : Int32) + nI 0).toNatClampNeg = 16 := rfl
      rw [c0, c1]
      refine fin _ _ _ _ (by decide) ((w1.n rfl).n rfl) ((f1.i rfl).i rfl) (fun a k ha => (u_ne (fun z => ha z.1)).trans ((u_ne (fun z => ha z.1)).trans (h1 a k ha))) (fun k hk => ?_)
      by_cases q1 : k = 16
      · subst q1; exact u_eq
      · refine (u_ne (fun z => q1 z.2)).trans ?_
        by_cases q0 : k = 0
        · subst q0; exact u_eq
        · refine (u_ne (fun z => q0 z.2)).trans ?_
          by_cases q : k < 16
          · exact h2 k (by omega) q
          · exact h3 k (by omega) hk
    | succ n ih =>
      intro t ht m1 w1 f1 h1 h2 h3
      refine g_X12_load_19 ⟨fun c => absurd ((l_lt 0 0 rfl (by decide) (by omega)).mp c) (by omega), fun _ => ?_⟩
      have d0 := mk_dig 16 (h7.d (o := 0) (by decide)) t (by omega)
      have d1 := mk_dig 16 (h7.d (o := 16) (by decide)) t (by omega)
      rw [show 0 + (16 - 1 - t) = n + 1 by omega] at d0
      rw [show 16 + (16 - 1 - t) = 16 + (n + 1) by omega] at d1
      have e0 : ((lN (mkN f 0 16 / 8 ^ t)) &&& (7 : Int64)).toInt32 = f (n + 1) := (m7_ok d0 hW0).trans (sdg_ok (h7 _ (by omega))).2.symm
      have e1 : ((lN (mkN f 16 16 / 8 ^ t)) &&& (7 : Int64)).toInt32 = f (16 + (n + 1)) := (m7_ok d1 hW1).trans (sdg_ok (h7 _ (by omega))).2.symm
      have s0 : ∀ W : Nat, W < 281474976710656 → lN (W / 8 ^ t) >>> ((3 : Int32).toInt64 &&& 63) = lN (W / 8 ^ (t + 1)) := fun W hW => by
        have hd : W / 8 ^ t ≤ W := Nat.div_le_self _ _
        rw [pf_shr (d := 3) (by decide) (by omega), Nat.div_div_eq_div_mul, show (2 : Nat) ^ 3 = 8 from rfl, ← Nat.pow_succ]
      have ex : (16 : Int32) + nI (n + 1) = nI (16 + (n + 1)) := by
        rw [show (16 : Int32) = nI 16 from rfl, nI_add]
      have em : nI (n + 1) + (-1 : Int32) = nI n := by
        have := nI_sb (a := n + 1) (b := 1) (by omega) (by omega)
        rw [Int32.sub_eq_add_neg] at this
        exact this
      rw [e0, e1, s0 _ hW0, s0 _ hW1, ex, em, nI_clamp (by omega), nI_clamp (by omega)]
      refine ⟨nat_in (by omega) (by decide), nat_in (by omega) (by decide), ih (t + 1) (by omega) _ ((w1.n rfl).n rfl) ((f1.i rfl).i rfl) (fun a k ha => (u_ne (fun z => ha z.1)).trans ((u_ne (fun z => ha z.1)).trans (h1 a k ha))) (fun k k1 k2 => ?_) (fun k k1 k2 => ?_)⟩
      · refine (u_ne (fun z => by omega)).trans ?_
        by_cases q0 : k = n + 1
        · subst q0; exact u_eq
        · exact (u_ne (fun z => q0 z.2)).trans (h2 k (by omega) k2)
      · by_cases q1 : k = 16 + (n + 1)
        · subst q1; exact u_eq
        · exact (u_ne (fun z => q1 z.2)).trans ((u_ne (fun z => by omega)).trans (h3 k (by omega) k2))
  refine v_X12_load ⟨V, V, ?_⟩
  rw [nI_clamp (by omega), hA, hB]
  have := L 15 0 rfl m w Fx.rf (fun _ _ _ => rfl) (fun k k1 k2 => absurd k2 (by omega)) (fun k k1 k2 => absurd k2 (by omega))
  rw [Nat.pow_zero, Nat.div_one, Nat.div_one] at this
  exact this
theorem getM {S : Nat} (hA : m.2.1 205 S = lN (mkN f 0 16)) (hB : m.2.1 206 S = lN (mkN f 16 16)) (h7 : SR7 f) (hS : S < 3000) {s a : Nat} (hs : s < 8) (ha : a < 4) : Ct ad μX12_skillIn d [.ref (ad 187), .int (nI S), .int (nI s), .int (nI a)] m (fun r m' => m' = m ∧ r = some (.int (f (4 * s + a)))) := by
  have V : vp_in (nI S) 3000 := nat_in hS (by decide)
  have K : ∀ o, o + (4 * s + a) % 16 = 4 * s + a → o ≤ 16 → AW ad E0 μX12_skillIn d (fun r m' => m' = m ∧ r = some (.int (f (4 * s + a)))) 29 [(4, .int (nI (4 * s + a)))] [.long (lN (mkN f o 16))] m := by
    intro o ho h16
    refine g_X12_skillIn_29 ⟨rfl, ?_⟩
    have h48 := mk_48 h7 h16
    have e1 : nI (4 * s + a) - nI (4 * s + a) / (16 : Int32) * (16 : Int32) = nI ((4 * s + a) % 16) := nI_rem (G := 16) (by omega) (by decide) (by decide)
    have e2 : (15 : Int32) - nI ((4 * s + a) % 16) = nI (15 - (4 * s + a) % 16) := nI_sb (a := 15) (b := (4 * s + a) % 16) (by omega) (by decide)
    have e3 : (3 : Int32) * nI (15 - (4 * s + a) % 16) = nI (3 * (15 - (4 * s + a) % 16)) := l_mul 3 3 rfl _
    have hsm : ∀ k, k < 64 → (((nI k).toInt64 &&& 63).toBitVec.smod 64).toNat = k := fun k hk => by
      rw [wb_c k hk, wb_tb, wb_sm k hk, BitVec.toNat_ofNat]
      exact Nat.mod_eq_of_lt (by omega)
    rw [e1, e2, e3, pf_shr (hsm _ (by omega)) (by omega), Nat.pow_mul, show (2 : Nat) ^ 3 = 8 from rfl]
    have := mk_dig 16 (h7.d (o := o) (by omega)) (15 - (4 * s + a) % 16) (by omega)
    rw [show o + (16 - 1 - (15 - (4 * s + a) % 16)) = 4 * s + a by omega] at this
    rw [m7_ok this h48, ← (sdg_ok (h7 _ (by omega))).2]
  refine v_X12_skillIn ?_
  rw [m_ix, nI_clamp (by omega), hA, hB]
  refine ⟨fun c => ⟨V, ?_⟩, fun c => ⟨V, ?_⟩⟩
  · have := (le_l 16 16 rfl (by decide) (by omega)).mp c
    exact K 16 (by omega) (by decide)
  · have : ¬ 16 ≤ 4 * s + a := fun z => c ((le_l 16 16 rfl (by decide) (by omega)).mpr z)
    exact K 0 (by omega) (by decide)
end PKM
