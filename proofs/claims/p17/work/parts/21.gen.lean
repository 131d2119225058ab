/-! ROWS THAT SERVE MANY METHODS: counting up, layouts of the model's league in an int[], questions of both sides -/
theorem down {N : Nat} {P : Nat → Prop} (h0 : P N) (hs : ∀ k, k < N → P (k + 1) → P k) : ∀ {k : Nat}, k ≤ N → P k := by
  have h : ∀ n k, k + n = N → P k := by
    intro n
    induction n with
    | zero => intro k hk; have : k = N := hk; exact this ▸ h0
    | succ n ih => intro k hk; exact hs k (by omega) (ih (k + 1) (by omega))
  intro k hk
  exact h (N - k) k (by omega)
/-! a literal c is nI n -/
theorem le_l (n : Nat) (c : Int32) (e : c = nI n) {k : Nat} (hn : n < 2147483648) (hk : k < 2147483648) : c ≤ nI k ↔ n ≤ k := by rw [e]; exact nI_leI hn hk
theorem lt_l (n : Nat) (c : Int32) (e : c = nI n) {k : Nat} (hn : n < 2147483648) (hk : k < 2147483648) : c < nI k ↔ n < k := by rw [e]; exact nI_ltI hn hk
theorem l_le (n : Nat) (c : Int32) (e : c = nI n) {k : Nat} (hn : n < 2147483648) (hk : k < 2147483648) : nI k ≤ c ↔ k ≤ n := by rw [e]; exact nI_leI hk hn
theorem l_lt (n : Nat) (c : Int32) (e : c = nI n) {k : Nat} (hn : n < 2147483648) (hk : k < 2147483648) : nI k < c ↔ k < n := by rw [e]; exact nI_ltI hk hn
theorem add_l (n : Nat) (c : Int32) (e : c = nI n) (a : Nat) : nI a + c = nI (a + n) := by rw [e]; exact nI_add a n
theorem l_add (n : Nat) (c : Int32) (e : c = nI n) (a : Nat) : c + nI a = nI (n + a) := by rw [e]; exact nI_add n a
theorem nI_mul (a b : Nat) : nI a * nI b = nI (a * b) := (Int32.ofNat_mul a b).symm
theorem l_mul (n : Nat) (c : Int32) (e : c = nI n) (a : Nat) : c * nI a = nI (n * a) := by rw [e]; exact nI_mul n a
theorem mul_l (n : Nat) (c : Int32) (e : c = nI n) (a : Nat) : nI a * c = nI (a * n) := by rw [e]; exact nI_mul a n
theorem nat_in {k n : Nat} (h : k < n) (hn : n < 2147483648) : vp_in (nI k) n := vp_in_nI h hn
theorem bz_ite {c : Prop} [Decidable c] : bz (if c then 1 else 0) := by by_cases h : c <;> simp [h, bz]
section GEN
variable {ad : Nat → Nat} {d : Nat} {m : Wm}
/-! the model's questions -/
theorem in_ok {y0 y2 y4 : Int64} : Ct ad μX12_in d [.long y0, .long y2, .long y4] m (fun r m' => m' = m ∧ r = some (.int (if y2 ≤ y0 ∧ y0 ≤ y4 then 1 else 0))) := by
  refine v_X12_in ⟨fun h => ?_, fun h => ⟨fun h2 => ?_, fun h2 => ?_⟩⟩
  · rw [lg_cmp_lt, fa_lt64] at h
    rw [if_neg (fun q => by have := (fa_le64 _ _).mp q.1; omega)]
    exact ⟨rfl, rfl⟩
  · rw [lg_cmp_gt, fa_lt64] at h2
    rw [if_neg (fun q => by have := (fa_le64 _ _).mp q.2; omega)]
    exact ⟨rfl, rfl⟩
  · rw [lg_cmp_lt, fa_lt64] at h
    rw [lg_cmp_gt, fa_lt64] at h2
    rw [if_pos ⟨(fa_le64 _ _).mpr (by omega), (fa_le64 _ _).mpr (by omega)⟩]
    exact ⟨rfl, rfl⟩
theorem in_i {x lo hi : Int32} {y2 y4 : Int64} (h2 : y2 = lo.toInt64) (h4 : y4 = hi.toInt64) : Ct ad μX12_in d [.long x.toInt64, .long y2, .long y4] m (fun r m' => m' = m ∧ r = some (.int (if lo ≤ x ∧ x ≤ hi then 1 else 0))) := by
  subst h2 h4
  refine in_ok.to ?_
  rintro _ _ ⟨rfl, rfl⟩
  simp only [fa_wide_le]
  exact ⟨trivial, trivial⟩
theorem isSide_ok {x : Int32} : Ct ad μX12_isSide (d + 1) [.ref (ad 187), .int x] m (fun r m' => m' = m ∧ r = some (.int (if 0 ≤ x ∧ x ≤ m.1 187 1 - 1 then 1 else 0))) :=
  v_X12_isSide ((in_i (lo := 0) rfl rfl).to (by rintro _ _ ⟨rfl, rfl⟩; exact ⟨_, rfl, bz_ite, rfl, rfl⟩))
theorem isArt_ok {x : Int32} : Ct ad μX12_isArt (d + 1) [.ref (ad 187), .int x] m (fun r m' => m' = m ∧ r = some (.int (if 0 ≤ x ∧ x ≤ m.1 187 0 - 1 then 1 else 0))) :=
  v_X12_isArt ((in_i (lo := 0) rfl rfl).to (by rintro _ _ ⟨rfl, rfl⟩; exact ⟨_, rfl, bz_ite, rfl, rfl⟩))
theorem tellM {y : Int64} {n : Nat} (h : m.1 187 16 = nI n) (hn : n < 16) : Ct ad μX12_tell d [.ref (ad 187), .long y] m (fun r m' => r = none ∧ m' = uI (uL m 196 n y) 187 16 (nI (n + 1))) := by
  refine v_X12_tell ⟨by rw [h]; exact nat_in hn (by decide), rfl, ?_⟩
  show uI (uL m 196 (m.1 187 16).toNatClampNeg y) 187 16 (m.1 187 16 + 1) = _
  rw [h, nI_clamp (by omega), nI_1]
/-! the model's league in a row of ints -/
def layV (m : Wm) (k : Nat) : Int32 := if k < 32 then m.1 188 k else if k < 56 then (if (k - 32) % 3 = 0 then m.1 190 ((k - 32) / 3) else if (k - 32) % 3 = 1 then m.1 191 ((k - 32) / 3) else m.1 192 ((k - 32) / 3)) else m.1 187 8
def layM (m : Wm) (a x n : Nat) : Wm := (fun b j => if b = a ∧ x ≤ j ∧ j < x + n then layV m (j - x) else m.1 b j, m.2)
theorem layM_0 {a x : Nat} : layM m a x 0 = m := by
  unfold layM
  have : (fun b j => if b = a ∧ x ≤ j ∧ j < x + 0 then layV m (j - x) else m.1 b j) = m.1 := by
    funext b j
    rw [if_neg (by omega)]
  rw [this]
theorem layM_step {a x n i : Nat} {v : Int32} (hi : i = x + n) (hv : v = layV m n) : uI (layM m a x n) a i v = layM m a x (n + 1) := by
  subst hi hv
  have : (fun b j => if b = a ∧ j = x + n then layV m n else (layM m a x n).1 b j) = (layM m a x (n + 1)).1 := by
    funext b j
    show _ = if b = a ∧ x ≤ j ∧ j < x + (n + 1) then layV m (j - x) else m.1 b j
    by_cases hb : b = a
    · by_cases hj : j = x + n
      · rw [if_pos ⟨hb, hj⟩, if_pos ⟨hb, by omega, by omega⟩, hj, Nat.add_sub_cancel_left]
      · rw [if_neg (fun q => hj q.2)]
        show (if b = a ∧ x ≤ j ∧ j < x + n then layV m (j - x) else m.1 b j) = _
        by_cases hc : x ≤ j ∧ j < x + n
        · rw [if_pos ⟨hb, hc⟩, if_pos ⟨hb, hc.1, by omega⟩]
        · rw [if_neg (fun q => hc q.2), if_neg (fun q => hc ⟨q.2.1, by omega⟩)]
    · rw [if_neg (fun q => hb q.1), if_neg (fun q => hb q.1)]
      show (if b = a ∧ x ≤ j ∧ j < x + n then layV m (j - x) else m.1 b j) = _
      rw [if_neg (fun q => hb q.1)]
  show ((fun b j => if b = a ∧ j = x + n then layV m n else (layM m a x n).1 b j), m.2) = layM m a x (n + 1)
  rw [this]
  rfl
theorem layM_at {a x n b j : Nat} (hb : b ≠ a) : (layM m a x n).1 b j = m.1 b j := if_neg (fun q => hb q.1)
theorem layV_a {k : Nat} (h : k < 32) : layV m k = m.1 188 k := if_pos h
theorem layV_b {k r : Nat} (h : k < 8) (hr : r < 3) : layV m (32 + 3 * k + r) = if r = 0 then m.1 190 k else if r = 1 then m.1 191 k else m.1 192 k := by
  unfold layV
  rw [if_neg (by omega), if_pos (by omega), show (32 + 3 * k + r - 32) % 3 = r by omega, show (32 + 3 * k + r - 32) / 3 = k by omega]
theorem layC {a na x : Nat} (ha : LAY[a]? = some (.inr (0, na))) (hn : ∀ b ∈ [187, 188, 190, 191, 192], b ≠ a) (hx : x + 57 ≤ na) (hb : na < 100000) : Ct ad μX12_lay d [.ref (ad 187), .ref (ad a), .int (nI x)] m (fun r m' => r = none ∧ m' = layM m a x 57) := by
  refine v_X12_lay ha ?_
  have h1 : ∀ Q : Option Value → Wm → Prop, AW ad E0 μX12_lay d Q 37 [(0, .ref (ad 187)), (1, .ref (ad a)), (3, .int (nI (x + 32))), (4, .int (nI 0))] [] (layM m a x 32) → AW ad E0 μX12_lay d Q 5 [(0, .ref (ad 187)), (1, .ref (ad a)), (3, .int (nI x)), (4, .int (nI 0))] [] m := by
    intro Q h
    have := down (N := 32) (P := fun k => AW ad E0 μX12_lay d Q 5 [(0, .ref (ad 187)), (1, .ref (ad a)), (3, .int (nI x)), (4, .int (nI k))] [] (layM m a x k)) ?_ ?_ (Nat.zero_le _)
    · rw [layM_0] at this
      exact this
    · exact g_X12_lay_5 ha ⟨fun _ => by rw [add_l 32 32 rfl]; exact h, fun h => absurd (by decide) h⟩
    · intro k hk ih
      refine g_X12_lay_5 ha ⟨fun h => absurd ((le_l 32 32 rfl (by omega) (by omega)).mp h) (by omega), fun _ => ⟨nat_in hk (by decide), by rw [nI_add]; exact nat_in (by omega) (by omega), ?_⟩⟩
      rw [nI_add, nI_1, layM_step (by rw [nI_clamp (by omega)]) (by rw [layM_at (hn 188 (by simp)), nI_clamp (by omega), layV_a hk])]
      exact ih
  refine h1 _ ?_
  have := down (N := 8) (P := fun k => AW ad E0 μX12_lay d (fun r m' => r = none ∧ m' = layM m a x 57) 37 [(0, .ref (ad 187)), (1, .ref (ad a)), (3, .int (nI (x + 32))), (4, .int (nI k))] [] (layM m a x (32 + 3 * k))) ?_ ?_ (Nat.zero_le _)
  · exact this
  · refine g_X12_lay_37 ha ⟨fun _ => ⟨by rw [add_l 24 24 rfl]; exact nat_in (by omega) (by omega), rfl, ?_⟩, fun h => absurd (by decide) h⟩
    rw [add_l 24 24 rfl, layM_step (by rw [nI_clamp (by omega)]) (by rw [layM_at (hn 187 (by simp))]; rfl)]
  · intro k hk ih
    have e3 : (3 : Int32) * nI k = nI (3 * k) := l_mul 3 3 rfl k
    refine g_X12_lay_37 ha ⟨fun h => absurd ((le_l 8 8 rfl (by omega) (by omega)).mp h) (by omega), fun _ => ?_⟩
    rw [e3, nI_add, nI_1 (x + 32 + 3 * k), add_l 2 2 rfl, nI_1]
    refine ⟨nat_in hk (by decide), nat_in (by omega) (by omega), nat_in hk (by decide), nat_in (by omega) (by omega), nat_in hk (by decide), nat_in (by omega) (by omega), ?_⟩
    rw [layM_step (n := 32 + 3 * k) (by rw [nI_clamp (by omega)]; omega) (by rw [layM_at (hn 190 (by simp)), nI_clamp (by omega)]; exact (layV_b (r := 0) hk (by decide)).symm)]
    rw [layM_step (n := 32 + 3 * k + 1) (by rw [nI_clamp (by omega)]; omega) (by rw [layM_at (hn 191 (by simp)), nI_clamp (by omega)]; exact (layV_b (r := 1) hk (by decide)).symm)]
    rw [layM_step (n := 32 + 3 * k + 1 + 1) (by rw [nI_clamp (by omega)]; omega) (by rw [layM_at (hn 192 (by simp)), nI_clamp (by omega)]; exact (layV_b (r := 2) hk (by decide)).symm)]
    exact ih
def tgt (n : Nat) : Nat × Nat := if n < 32 then (188, n) else if n < 56 then (190 + (n - 32) % 3, (n - 32) / 3) else (187, 8)
theorem tgt_inj : ∀ i : Fin 57, ∀ j : Fin 57, tgt i.val = tgt j.val → i = j := by decide +kernel
theorem tgt_in : ∀ i : Fin 57, (tgt i.val).1 ∈ [187, 188, 190, 191, 192] := by decide +kernel
def brM (m : Wm) (a x : Nat) : Nat → Wm
  | 0 => m
  | n + 1 => uI (brM m a x n) (tgt n).1 (tgt n).2 (m.1 a (x + n))
theorem brM_at {a x k : Nat} : ∀ {n : Nat}, k < n → n ≤ 57 → (brM m a x n).1 (tgt k).1 (tgt k).2 = m.1 a (x + k) := by
  intro n
  induction n with
  | zero => intro h; omega
  | succ n ih =>
    intro h hn
    show (if (tgt k).1 = (tgt n).1 ∧ (tgt k).2 = (tgt n).2 then m.1 a (x + n) else (brM m a x n).1 (tgt k).1 (tgt k).2) = _
    by_cases hk : k = n
    · subst hk; rw [if_pos ⟨rfl, rfl⟩]
    · rw [if_neg (fun q => hk (by have := tgt_inj ⟨k, by omega⟩ ⟨n, by omega⟩ (Prod.ext q.1 q.2); exact Fin.mk.inj_iff.mp this))]
      exact ih (by omega) (by omega)
theorem brM_out {a x b j : Nat} (hb : ∀ k : Fin 57, tgt k.val ≠ (b, j)) : ∀ {n : Nat}, n ≤ 57 → (brM m a x n).1 b j = m.1 b j := by
  intro n
  induction n with
  | zero => intro _; rfl
  | succ n ih =>
    intro hn
    show (if b = (tgt n).1 ∧ j = (tgt n).2 then m.1 a (x + n) else (brM m a x n).1 b j) = _
    rw [if_neg (fun q => hb ⟨n, by omega⟩ (Prod.ext q.1.symm q.2.symm))]
    exact ih (by omega)
theorem brM_cell {a x b j : Nat} (hb : ∀ c ∈ [187, 188, 190, 191, 192], c ≠ b) {n : Nat} (hn : n ≤ 57) : (brM m a x n).1 b j = m.1 b j :=
  brM_out (fun k h => hb _ (tgt_in k) (congrArg Prod.fst h)) hn
theorem brM_2 {a x : Nat} : ∀ n, (brM m a x n).2 = m.2 := by
  intro n
  induction n with
  | zero => rfl
  | succ n ih => exact ih
theorem tgt_a {k : Nat} (h : k < 32) : tgt k = (188, k) := if_pos h
theorem tgt_b {k r : Nat} (h : k < 8) (hr : r < 3) : tgt (32 + 3 * k + r) = (190 + r, k) := by
  unfold tgt
  rw [if_neg (by omega), if_pos (by omega), show (32 + 3 * k + r - 32) % 3 = r by omega, show (32 + 3 * k + r - 32) / 3 = k by omega]
theorem brM_step {a x n b j : Nat} {v : Int32} (ht : tgt n = (b, j)) (hv : v = m.1 a (x + n)) : uI (brM m a x n) b j v = brM m a x (n + 1) := by
  subst hv
  show _ = uI (brM m a x n) (tgt n).1 (tgt n).2 (m.1 a (x + n))
  rw [ht]
theorem bringC {a na x : Nat} (ha : LAY[a]? = some (.inr (0, na))) (hn : ∀ b ∈ [187, 188, 190, 191, 192], b ≠ a) (hx : x + 57 ≤ na) (hb : na < 100000) : Ct ad μX12_bring d [.ref (ad 187), .ref (ad a), .int (nI x)] m (fun r m' => r = none ∧ m' = brM m a x 57) := by
  refine v_X12_bring ha ?_
  have h1 : ∀ Q : Option Value → Wm → Prop, AW ad E0 μX12_bring d Q 37 [(0, .ref (ad 187)), (1, .ref (ad a)), (3, .int (nI (x + 32))), (4, .int (nI 0))] [] (brM m a x 32) → AW ad E0 μX12_bring d Q 5 [(0, .ref (ad 187)), (1, .ref (ad a)), (3, .int (nI x)), (4, .int (nI 0))] [] m := by
    intro Q h
    have := down (N := 32) (P := fun k => AW ad E0 μX12_bring d Q 5 [(0, .ref (ad 187)), (1, .ref (ad a)), (3, .int (nI x)), (4, .int (nI k))] [] (brM m a x k)) ?_ ?_ (Nat.zero_le _)
    · exact this
    · exact g_X12_bring_5 ha ⟨fun _ => by rw [add_l 32 32 rfl]; exact h, fun h => absurd (by decide) h⟩
    · intro k hk ih
      refine g_X12_bring_5 ha ⟨fun h => absurd ((le_l 32 32 rfl (by omega) (by omega)).mp h) (by omega), fun _ => ⟨by rw [nI_add]; exact nat_in (by omega) (by omega), nat_in hk (by decide), ?_⟩⟩
      rw [nI_add, nI_1, brM_step (by rw [nI_clamp (by omega)]; exact tgt_a hk) (by rw [brM_cell hn (by omega), nI_clamp (by omega)])]
      exact ih
  refine h1 _ ?_
  have := down (N := 8) (P := fun k => AW ad E0 μX12_bring d (fun r m' => r = none ∧ m' = brM m a x 57) 37 [(0, .ref (ad 187)), (1, .ref (ad a)), (3, .int (nI (x + 32))), (4, .int (nI k))] [] (brM m a x (32 + 3 * k))) ?_ ?_ (Nat.zero_le _)
  · exact this
  · refine g_X12_bring_37 ha ⟨fun _ => ⟨by rw [add_l 24 24 rfl]; exact nat_in (by omega) (by omega), rfl, ?_⟩, fun h => absurd (by decide) h⟩
    rw [add_l 24 24 rfl, brM_step (n := 56) rfl (by rw [brM_cell hn (by omega), nI_clamp (by omega)])]
  · intro k hk ih
    have e3 : (3 : Int32) * nI k = nI (3 * k) := l_mul 3 3 rfl k
    have w : ∀ (b j n : Nat), n ≤ 57 → (brM m a x n).1 a j = m.1 a j := fun b j n h => brM_cell hn h
    refine g_X12_bring_37 ha ⟨fun h => absurd ((le_l 8 8 rfl (by omega) (by omega)).mp h) (by omega), fun _ => ?_⟩
    rw [e3, nI_add, nI_1 (x + 32 + 3 * k), add_l 2 2 rfl, nI_1]
    refine ⟨nat_in (by omega) (by omega), nat_in hk (by decide), nat_in (by omega) (by omega), nat_in hk (by decide), nat_in (by omega) (by omega), nat_in hk (by decide), ?_⟩
    rw [brM_step (n := 32 + 3 * k) (by rw [nI_clamp (by omega)]; exact tgt_b (r := 0) hk (by decide)) (by rw [brM_cell hn (by omega), nI_clamp (by omega)]; exact congrArg (m.1 a) (by omega))]
    rw [brM_step (n := 32 + 3 * k + 1) (by rw [nI_clamp (by omega)]; exact tgt_b (r := 1) hk (by decide)) (by rw [brM_cell hn (by omega), nI_clamp (by omega)]; exact congrArg (m.1 a) (by omega))]
    rw [brM_step (n := 32 + 3 * k + 1 + 1) (by rw [nI_clamp (by omega)]; exact tgt_b (r := 2) hk (by decide)) (by rw [brM_cell hn (by omega), nI_clamp (by omega)]; exact congrArg (m.1 a) (by omega))]
    exact ih
theorem sumOfAll0 (h : m.1 187 1 = 0) : Ct ad μX12_sumOfAll (d + 1) [.ref (ad 187)] m (fun r m' => m' = m ∧ r = some (.int 0)) :=
  v_X12_sumOfAll (g_X12_sumOfAll_4 ⟨fun _ => ⟨rfl, rfl⟩, fun h1 => absurd (by rw [h]; decide) h1⟩)
end GEN
