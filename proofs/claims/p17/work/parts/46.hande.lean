/-! STATES (model): the table always has an empty place; depth and parent -/
section STS
variable {ad : Nat → Nat} {m : Wm}
def czf (f : Nat → Int32) : Nat → Nat
  | 0 => 0
  | n + 1 => czf f n + (if f n = 0 then 0 else 1)
theorem czf_ex {f : Nat → Int32} : ∀ n, czf f n < n → ∃ z, z < n ∧ f z = 0 := by
  intro n
  induction n with
  | zero => intro h; exact absurd h (by omega)
  | succ n ih =>
    intro h
    by_cases hf : f n = 0
    · exact ⟨n, by omega, hf⟩
    · have h2 : czf f n + (if f n = 0 then 0 else 1) < n + 1 := h
      rw [if_neg hf] at h2
      obtain ⟨z, hz, e⟩ := ih (by omega)
      exact ⟨z, by omega, e⟩
theorem czf_upd {f g : Nat → Int32} {p : Nat} (h : ∀ j, j ≠ p → g j = f j) : ∀ n, (p < n → czf g n ≤ czf f n + 1) ∧ (n ≤ p → czf g n = czf f n) := by
  intro n
  induction n with
  | zero => exact ⟨fun q => absurd q (by omega), fun _ => rfl⟩
  | succ n ih =>
    have e1 : czf g (n + 1) = czf g n + (if g n = 0 then 0 else 1) := rfl
    have e2 : czf f (n + 1) = czf f n + (if f n = 0 then 0 else 1) := rfl
    rw [e1, e2]
    by_cases hp : n = p
    · have e3 := ih.2 (by omega)
      refine ⟨fun _ => ?_, fun q => absurd q (by omega)⟩
      rw [e3]
      split <;> split <;> omega
    · rw [h n hp]
      refine ⟨fun q => ?_, fun q => ?_⟩
      · have := ih.1 (by omega)
        omega
      · have := ih.2 (by omega)
        omega
def ST (m : Wm) : Prop := (czf (m.1 210) 8192 : Int) ≤ (m.1 187 43).toInt ∧ (∀ k, k < 8192 → (m.1 210 k).toInt ≤ (m.1 187 43).toInt) ∧ (∀ k : Nat, (k : Int) < (m.1 187 43).toInt → (m.1 207 k).toInt = 0 ∨ ∃ p : Nat, m.1 208 k = nI p ∧ p < k ∧ (m.1 207 k).toInt = (m.1 207 p).toInt + 1)
theorem ST.fx {m m' : Wm} {S : List Nat} (h : ST m) (f : Fx (RS S) m m') (h35 : S.elem 35 = false) : ST m' := by
  have e1 := fx_cell (a := 210) (ρ := 35) f (fun _ => rfl) h35
  have e2 := fx_cell (a := 207) (ρ := 35) f (fun _ => rfl) h35
  have e3 := fx_cell (a := 208) (ρ := 35) f (fun _ => rfl) h35
  have e4 : m'.1 187 43 = m.1 187 43 := f.at (fun q => by unfold RS at q; rw [show rg 187 43 = 35 from rfl, h35] at q; cases q)
  unfold ST
  rw [e1, e2, e3, e4]
  exact h
theorem and8191 {x : Nat} (h : x < 8192) : (nI x + 1) &&& (8191 : Int32) = nI ((x + 1) % 8192) := by
  rw [nI_1]
  apply Int32.toBitVec_inj.mp
  apply BitVec.eq_of_toNat_eq
  show (BitVec.ofNat 32 (x + 1) &&& (8191#32)).toNat = (BitVec.ofNat 32 ((x + 1) % 8192)).toNat
  have e1 : (BitVec.ofNat 32 (x + 1)).toNat = x + 1 := by rw [BitVec.toNat_ofNat]; exact Nat.mod_eq_of_lt (by omega)
  have e2 : (BitVec.ofNat 32 ((x + 1) % 8192)).toNat = (x + 1) % 8192 := by rw [BitVec.toNat_ofNat]; exact Nat.mod_eq_of_lt (by omega)
  rw [BitVec.toNat_and, e1, e2]
  exact Nat.and_two_pow_sub_one_eq_mod (x + 1) 13
theorem hash_in (h : UInt64) : ∃ v : Nat, v < 8192 ∧ ((h >>> ((51 : Int32).toInt64.toUInt64 &&& Int64.toUInt64 63)).toInt64).toInt32 = nI v := by
  have e : ((51 : Int32).toInt64.toUInt64 &&& Int64.toUInt64 63) = 51 := by decide
  rw [e]
  have hs : (h >>> (51 : UInt64)).toNat = h.toNat >>> 51 := by
    rw [UInt64.toNat_shiftRight]
    rfl
  have hb : h.toNat >>> 51 < 8192 := by
    have := UInt64.toNat_lt h
    rw [Nat.shiftRight_eq_div_pow]
    have : (2 : Nat) ^ 51 = 2251799813685248 := by decide
    omega
  refine ⟨(h >>> (51 : UInt64)).toNat, by omega, ?_⟩
  apply Int32.toBitVec_inj.mp
  apply BitVec.eq_of_toNat_eq
  show ((h >>> (51 : UInt64)).toBitVec.signExtend 32).toNat = (BitVec.ofNat 32 (h >>> (51 : UInt64)).toNat).toNat
  rw [BitVec.signExtend_eq_setWidth_of_le _ (by decide), BitVec.toNat_setWidth, BitVec.toNat_ofNat]
  rfl
theorem slot_ok {d : Nat} {y1 y3 : Int64} (w : WT m) (h : (czf (m.1 210) 8192 : Int) ≤ 3000) : Ct ad μX12_slot d [.ref (ad 187), .long y1, .long y3] m (fun r m' => m' = m ∧ ∃ v : Nat, r = some (.int (nI v)) ∧ v < 8192) := by
  obtain ⟨z, hz, e0⟩ := czf_ex 8192 (f := m.1 210) (by omega)
  have L : ∀ n x : Nat, x < 8192 → (z + 8192 - x) % 8192 ≤ n → AW ad E0 μX12_slot d (fun r m' => m' = m ∧ ∃ v : Nat, r = some (.int (nI v)) ∧ v < 8192) 21 [(0, .ref (ad 187)), (1, .long y1), (3, .long y3), (7, .int (nI x))] [] m := by
    intro n
    induction n with
    | zero =>
      intro x hx hm
      have : x = z := by omega
      subst this
      refine g_X12_slot_21 ⟨nat_in hx (by decide), fun _ => ⟨rfl, x, rfl, hx⟩, fun c => absurd (by rw [nI_clamp (by omega)]; exact e0) c⟩
    | succ n ih =>
      intro x hx hm
      refine g_X12_slot_21 ⟨nat_in hx (by decide), fun _ => ⟨rfl, x, rfl, hx⟩, fun c => ?_⟩
      rw [nI_clamp (by omega)] at c ⊢
      have hxz : x ≠ z := fun q => c (by rw [q]; exact e0)
      have t := w.at (a := 210) (k := x) rfl
      have c0 := z_ne c
      have z0 : (0 : Int32).toInt = 0 := rfl
      have z1 : (1 : Int32).toInt = 1 := rfl
      have t1 := ti_subc (x := m.1 210 x) (y := 1) (c := 1) rfl (by omega)
      have step : AW ad E0 μX12_slot d (fun r m' => m' = m ∧ ∃ v : Nat, r = some (.int (nI v)) ∧ v < 8192) 69 [(0, .ref (ad 187)), (1, .long y1), (3, .long y3), (7, .int (nI x))] [] m := by
        refine g_X12_slot_69 ?_
        rw [and8191 hx]
        exact ih _ (Nat.mod_lt _ (by decide)) (by omega)
      refine ⟨nat_in hx (by decide), vpi (by omega) (by omega), fun _ => step, fun _ => ⟨nat_in hx (by decide), vpi (by omega) (by omega), fun _ => ⟨rfl, x, rfl, hx⟩, fun _ => step⟩⟩
  refine v_X12_slot ?_
  obtain ⟨v, hv, e⟩ := hash_in ((y1 * (-7046029254386353131 : Int64)) ^^^ (y3 * (-4417276706812531889 : Int64))).toUInt64
  rw [e]
  exact L 8192 v hv (by omega)
end STS
