/-! THE STATES OF THE MODEL: clearing, packing, a state's place, a new one -/
theorem uI_1 {m : Wm} {a k b j : Nat} {v : Int32} : (uI m a k v).1 b j = if b = a ∧ j = k then v else m.1 b j := rfl
theorem uL_2 {m : Wm} {a k b j : Nat} {v : Int64} : (uL m a k v).2.1 b j = if b = a ∧ j = k then v else m.2.1 b j := rfl
section GEN
variable {ad : Nat → Nat} {d : Nat} {m : Wm}
/-- n places from lo on are 0 -/
def zr (m : Wm) (a lo n : Nat) : Wm := (fun b j => if b = a ∧ lo ≤ j ∧ j < lo + n then 0 else m.1 b j, m.2)
theorem zr_0 {a lo : Nat} : zr m a lo 0 = m := by
  unfold zr
  have : (fun b j => if b = a ∧ lo ≤ j ∧ j < lo + 0 then 0 else m.1 b j) = m.1 := by
    funext b j
    rw [if_neg (by omega)]
  rw [this]
theorem zr_step {a lo n i : Nat} (hi : i = lo + n) : uI (zr m a lo n) a i 0 = zr m a lo (n + 1) := by
  subst hi
  have : (fun b j => if b = a ∧ j = lo + n then 0 else (zr m a lo n).1 b j) = (zr m a lo (n + 1)).1 := by
    funext b j
    show _ = if b = a ∧ lo ≤ j ∧ j < lo + (n + 1) then 0 else m.1 b j
    by_cases hb : b = a
    · by_cases hj : j = lo + n
      · rw [if_pos ⟨hb, hj⟩, if_pos ⟨hb, by omega, by omega⟩]
      · rw [if_neg (fun q => hj q.2)]
        show (if b = a ∧ lo ≤ j ∧ j < lo + n then 0 else m.1 b j) = _
        by_cases hc : lo ≤ j ∧ j < lo + n
        · rw [if_pos ⟨hb, hc⟩, if_pos ⟨hb, hc.1, by omega⟩]
        · rw [if_neg (fun q => hc q.2), if_neg (fun q => hc ⟨q.2.1, by omega⟩)]
    · rw [if_neg (fun q => hb q.1), if_neg (fun q => hb q.1)]
      show (if b = a ∧ lo ≤ j ∧ j < lo + n then 0 else m.1 b j) = _
      rw [if_neg (fun q => hb q.1)]
  show ((fun b j => if b = a ∧ j = lo + n then 0 else (zr m a lo n).1 b j), m.2) = zr m a lo (n + 1)
  rw [this]
  rfl
theorem zr_in {a lo n j : Nat} (h1 : lo ≤ j) (h2 : j < lo + n) : (zr m a lo n).1 a j = 0 := if_pos ⟨rfl, h1, h2⟩
theorem zr_out {a lo n b j : Nat} (h : b ≠ a) : (zr m a lo n).1 b j = m.1 b j := if_neg (fun q => h q.1)
theorem zr_low {a lo n j : Nat} (h : j < lo) : (zr m a lo n).1 a j = m.1 a j := if_neg (fun q => by omega)
/-- the model's states cleared: what it then holds -/
def clrM (m : Wm) (s : Nat) : Wm := layM (zr (uI (zr m 210 0 8192) 187 43 0) 188 (4 * s) (32 - 4 * s)) 204 0 57
theorem clearC {s : Nat} (h : m.1 187 1 = nI s) (hs : s ≤ 8) : Ct ad μX12_clearStates (d + 1) [.ref (ad 187)] m (fun r m' => r = none ∧ m' = clrM m s) := by
  refine v_X12_clearStates ?_
  have h1 := down (N := 8192) (P := fun k => AW ad E0 μX12_clearStates (d + 1) (fun r m' => r = none ∧ m' = clrM m s) 2 [(0, .ref (ad 187)), (1, .int (nI k))] [] (zr m 210 0 k)) ?_ ?_ (Nat.zero_le _)
  · rw [zr_0] at h1; exact h1
  · refine g_X12_clearStates_2 ⟨fun _ => ?_, fun h => absurd (by decide) h⟩
    have e : (uI (zr m 210 0 8192) 187 43 0).1 187 1 = nI s := h
    rw [e]
    have h2 := down (N := 32 - 4 * s) (P := fun k => AW ad E0 μX12_clearStates (d + 1) (fun r m' => r = none ∧ m' = clrM m s) 34 [(0, .ref (ad 187)), (1, .int (nI (4 * s + k)))] [] (zr (uI (zr m 210 0 8192) 187 43 0) 188 (4 * s) k)) ?_ ?_ (Nat.zero_le _)
    · rw [zr_0] at h2
      rw [show (4 : Int32) * nI s = nI (4 * s) from l_mul 4 4 rfl s]
      exact h2
    · rw [show 4 * s + (32 - 4 * s) = 32 by omega]
      refine g_X12_clearStates_34 ⟨fun _ => ?_, fun h => absurd (by decide) h⟩
      refine (layC (a := 204) (na := 57) (x := 0) rfl (by decide) (by decide) (by decide)).to ?_
      rintro _ _ ⟨rfl, rfl⟩
      exact ⟨rfl, rfl, rfl⟩
    · intro k hk ih
      refine g_X12_clearStates_34 ⟨fun h => absurd ((le_l 32 32 rfl (by omega) (by omega)).mp h) (by omega), fun _ => ⟨nat_in (by omega) (by decide), ?_⟩⟩
      rw [nI_1, zr_step (by rw [nI_clamp (by omega)])]
      exact ih
  · intro k hk ih
    refine g_X12_clearStates_2 ⟨fun h => absurd ((le_l 8192 8192 rfl (by omega) (by omega)).mp h) (by omega), fun _ => ⟨nat_in (by omega) (by decide), ?_⟩⟩
    rw [nI_1, zr_step (by rw [nI_clamp (by omega)]; omega)]
    exact ih
/-- sixteen skills, three bits each, the first on top -/
def hv (m : Wm) (x : Nat) : Nat → Int64
  | 0 => 0
  | n + 1 => (hv m x n <<< ((3 : Int32).toInt64 &&& 63)) ||| (m.1 188 (x + n)).toInt64
theorem halfC {x : Nat} (hx : x + 16 ≤ 32) : Ct ad μX12_half d [.ref (ad 187), .int (nI x)] m (fun r m' => m' = m ∧ r = some (.long (hv m x 16))) := by
  refine v_X12_half ?_
  have h := down (N := 16) (P := fun k => AW ad E0 μX12_half d (fun r m' => m' = m ∧ r = some (.long (hv m x 16))) 5 [(0, .ref (ad 187)), (1, .int (nI x)), (2, .long (hv m x k)), (4, .int (nI k))] [] m) ?_ ?_ (Nat.zero_le _)
  · exact h
  · exact g_X12_half_5 ⟨fun _ => ⟨rfl, rfl⟩, fun h => absurd (by decide) h⟩
  · intro k hk ih
    refine g_X12_half_5 ⟨fun h => absurd ((le_l 16 16 rfl (by omega) (by omega)).mp h) (by omega), fun _ => ⟨by rw [nI_add]; exact nat_in (by omega) (by decide), ?_⟩⟩
    rw [nI_1, nI_add, nI_clamp (by omega)]
    exact ih
/-- a new state at the place p of the table -/
def snM (m : Wm) (w2 w4 : Int64) (n p : Nat) (fr gm dp : Int32) : Wm := uI (uI (uI (uI (uI (uL (uL m 205 n w2) 206 n w4) 208 n fr) 209 n gm) 207 n dp) 187 43 (nI (n + 1))) 210 p (nI (n + 1))
theorem stateNew {w2 w4 : Int64} {n p : Nat} {fr gm dp mo : Int32} (h0 : hv m 0 16 = w2) (h1 : hv m 16 16 = w4) (hs : Ct ad μX12_slot d [.ref (ad 187), .long w2, .long w4] m (fun r m' => m' = m ∧ r = some (.int (nI p)))) (hp : p < 8192) (ht : m.1 210 p = 0) (hn : m.1 187 43 = nI n) (hn2 : n < 3000) (hmo : ¬ nI n = mo) (hf : fr = -1 ∧ dp = 0 ∨ ∃ f, f < n ∧ fr = nI f ∧ dp = m.1 207 f + 1) : Ct ad μX12_stateNow (d + 1) [.ref (ad 187), .int fr, .int gm, .int mo] m (fun r m' => r = some (.int (nI n)) ∧ m' = snM m w2 w4 n p fr gm dp) := by
  subst h0 h1
  refine v_X12_stateNow ((halfC (x := 0) (by decide)).to ?_)
  rintro _ _ ⟨rfl, rfl⟩
  refine ⟨_, rfl, (halfC (x := 16) (by decide)).to ?_⟩
  rintro _ _ ⟨rfl, rfl⟩
  refine ⟨_, rfl, hs.to ?_⟩
  rintro _ m5 ⟨rfl, rfl⟩
  have e43 : ∀ k : Nat, nI n = nI k → k < 3000 → n = k := fun k h hk => (nI_eq (by omega) (by omega)).mp h
  have end_ : ∀ (D : Int32) (M : Wm), M.1 187 43 = nI n → snM m5 (hv m5 0 16) (hv m5 16 16) n p fr gm dp = uI (uI (uI M 207 n D) 187 43 (nI (n + 1))) 210 p (nI (n + 1)) → AW ad E0 μX12_stateNow (d + 1) (fun r m' => r = some (.int (nI n)) ∧ m' = snM m5 (hv m5 0 16) (hv m5 16 16) n p fr gm dp) 122 [(0, .ref (ad 187)), (8, .int (nI p))] [.int D, .int (nI n), .ref (ad 207)] M := by
    intro D M hM hE
    refine g_X12_stateNow_122 (ne2 := 3000) rfl ⟨nat_in hn2 (by decide), nat_in hp (by decide), ?_⟩
    have q1 : (uI M 207 (nI n).toNatClampNeg D).1 187 43 = nI n := hM
    rw [q1, nI_1, nI_clamp (by omega), nI_clamp (by omega)]
    have q2 : (uI (uI M 207 n D) 187 43 (nI (n + 1))).1 187 43 = nI (n + 1) := rfl
    rw [q2]
    refine ⟨?_, hE.symm⟩
    show some (Value.int (nI (n + 1) - 1)) = _
    rw [nI_pred]
  have c1 : ∀ M : Wm, M.1 = m5.1 → vp_in (M.1 187 43) 3000 := fun M h => by rw [h, hn]; exact nat_in hn2 (by decide)
  refine ⟨_, rfl, nat_in hp (by decide), fun _ => ⟨fun _ => ?_, fun h => absurd (hn.symm.trans h) hmo⟩, fun h => absurd (by rw [nI_clamp (by omega)]; exact ht) h⟩
  refine ⟨c1 _ rfl, c1 _ rfl, c1 _ rfl, ?_, ?_, ?_⟩
  · show vp_in (m5.1 187 43) 3000
    exact c1 _ rfl
  · intro hfr
    rcases hf with ⟨h, -⟩ | ⟨f, hf1, hf2, hf3⟩
    · exact absurd h hfr
    · refine ⟨by rw [hf2]; exact nat_in (by omega) (by decide), ?_⟩
      have := end_ dp (uI (uI (uL (uL m5 205 (nI n).toNatClampNeg (hv m5 0 16)) 206 (nI n).toNatClampNeg (hv m5 16 16)) 208 (nI n).toNatClampNeg fr) 209 (nI n).toNatClampNeg gm) hn (by rw [nI_clamp (by omega)]; rfl)
      refine aw_eq this rfl ?_ ?_
      · show [Value.int (m5.1 207 fr.toNatClampNeg + 1), Value.int (m5.1 187 43), _] = _
        rw [hn, hf2, nI_clamp (by omega), hf3]
      · show uI (uI (uL (uL m5 205 (m5.1 187 43).toNatClampNeg _) 206 (m5.1 187 43).toNatClampNeg _) 208 (m5.1 187 43).toNatClampNeg fr) 209 (m5.1 187 43).toNatClampNeg gm = _
        rw [hn]
  · intro hfr
    rcases hf with ⟨-, h⟩ | ⟨f, hf1, hf2, hf3⟩
    · have := end_ dp (uI (uI (uL (uL m5 205 (nI n).toNatClampNeg (hv m5 0 16)) 206 (nI n).toNatClampNeg (hv m5 16 16)) 208 (nI n).toNatClampNeg fr) 209 (nI n).toNatClampNeg gm) hn (by rw [nI_clamp (by omega)]; rfl)
      refine aw_eq this rfl ?_ ?_
      · show [Value.int 0, Value.int (m5.1 187 43), _] = _
        rw [hn, h]
      · show uI (uI (uL (uL m5 205 (m5.1 187 43).toNatClampNeg _) 206 (m5.1 187 43).toNatClampNeg _) 208 (m5.1 187 43).toNatClampNeg fr) 209 (m5.1 187 43).toNatClampNeg gm = _
        rw [hn]
    · rw [hf2] at hfr
      exact absurd (congrArg Int32.toInt hfr) (by rw [nI_toInt (by omega)]; show ¬ (f : Int) = -1; omega)
/-- three bits at a time, from the lowest -/
def shr3 (a : Int64) : Nat → Int64
  | 0 => a
  | n + 1 => (shr3 a n) >>> ((3 : Int32).toInt64 &&& 63)
def ldM (m : Wm) (a b : Int64) : Nat → Wm
  | 0 => m
  | n + 1 => uI (uI (ldM m a b n) 188 (15 - n) (((shr3 a n) &&& 7).toInt32)) 188 (31 - n) (((shr3 b n) &&& 7).toInt32)
theorem ldM_out {a b : Int64} {c j : Nat} (h : c ≠ 188) : ∀ n, (ldM m a b n).1 c j = m.1 c j := by
  intro n
  induction n with
  | zero => rfl
  | succ n ih =>
    show (if c = 188 ∧ j = 31 - n then _ else if c = 188 ∧ j = 15 - n then _ else (ldM m a b n).1 c j) = _
    rw [if_neg (fun q => h q.1), if_neg (fun q => h q.1)]
    exact ih
theorem ldM_2 {a b : Int64} : ∀ n, (ldM m a b n).2 = m.2 := by
  intro n
  induction n with
  | zero => rfl
  | succ n ih => exact ih
theorem dec_n (j : Nat) : nI (j + 1) + (-1 : Int32) = nI j := by
  rw [nI_succ, Int32.add_assoc]
  exact Int32.add_zero _
theorem dec_0 : nI 0 + (-1 : Int32) < 0 := by decide
theorem loadC {n : Nat} (hn : n < 3000) : Ct ad μX12_load d [.ref (ad 187), .int (nI n)] m (fun r m' => r = none ∧ m' = ldM m (m.2.1 205 n) (m.2.1 206 n) 16) := by
  refine v_X12_load ⟨nat_in hn (by decide), nat_in hn (by decide), ?_⟩
  rw [nI_clamp (by omega)]
  have h : ∀ (j k : Nat), j + k = 16 → AW ad E0 μX12_load d (fun r m' => r = none ∧ m' = ldM m (m.2.1 205 n) (m.2.1 206 n) 16) 19 [(0, .ref (ad 187)), (2, .long (shr3 (m.2.1 205 n) k)), (4, .long (shr3 (m.2.1 206 n) k)), (6, .int (nI j + -1))] [] (ldM m (m.2.1 205 n) (m.2.1 206 n) k) := by
    intro j
    induction j with
    | zero =>
      intro k hk
      obtain rfl : k = 16 := by omega
      exact g_X12_load_19 ⟨fun _ => ⟨rfl, rfl⟩, fun h => absurd dec_0 h⟩
    | succ j ih =>
      intro k hk
      rw [dec_n]
      refine g_X12_load_19 ⟨fun h => absurd h (nI_pos (by omega)), fun _ => ⟨nat_in (by omega) (by decide), by rw [l_add 16 16 rfl]; exact nat_in (by omega) (by decide), ?_⟩⟩
      rw [l_add 16 16 rfl, nI_clamp (by omega), nI_clamp (by omega)]
      have := ih (k + 1) (by omega)
      have e1 : j = 15 - k := by omega
      have e2 : 16 + j = 31 - k := by omega
      rw [e2]
      have e3 : ldM m (m.2.1 205 n) (m.2.1 206 n) (k + 1) = uI (uI (ldM m (m.2.1 205 n) (m.2.1 206 n) k) 188 j (((shr3 (m.2.1 205 n) k) &&& 7).toInt32)) 188 (31 - k) (((shr3 (m.2.1 206 n) k) &&& 7).toInt32) := by
        rw [e1]; rfl
      rw [e3] at this
      exact this
  exact h 16 0 rfl
end GEN
