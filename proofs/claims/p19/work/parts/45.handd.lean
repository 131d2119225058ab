section
/-! GREATEST COMMON MEASURE, A HUNDRED'S POWERS, PARTS (model) -/
section GC
variable {ad : Nat → Nat} {m : Wm}
theorem bm64 {z : Int} (h1 : -9223372036854775808 ≤ z) (h2 : z < 9223372036854775808) : z.bmod (2 ^ 64) = z := by
  have e : ((2 ^ 64 : Nat) : Int) = 18446744073709551616 := rfl
  exact Int.bmod_eq_of_le_mul_two (by rw [e]; omega) (by rw [e]; omega)
theorem rem64_toInt (a b : Int64) (hb : b ≠ 0) : (a - a / b * b).toInt = a.toInt.tmod b.toInt := by
  rw [Int64.toInt_sub, Int64.toInt_mul, Int64.toInt_div, Int.bmod_mul_bmod, Int.sub_bmod_bmod, Int.mul_comm, ← Int.tmod_def]
  have h1 := Int64.le_toInt a
  have h2 := Int64.toInt_lt a
  have hb0 : b.toInt ≠ 0 := fun q => hb (Int64.toInt_inj.mp q)
  have h3 : (a.toInt.tmod b.toInt).natAbs ≤ a.toInt.natAbs := by
    rw [Int.natAbs_tmod]
    exact Nat.mod_le _ _
  have h4 : (a.toInt.tmod b.toInt).natAbs < b.toInt.natAbs := by
    rw [Int.natAbs_tmod]
    exact Nat.mod_lt _ (by omega)
  have h5 := Int64.le_toInt b
  have h6 := Int64.toInt_lt b
  refine bm64 ?_ ?_ <;> omega
theorem half_mod {a b : Nat} (h : 0 < b) (hb : b < a) : 2 * (a % b) < a := by
  have h1 := Nat.mod_lt a h
  have h2 := Nat.div_add_mod a b
  have h3 : 1 ≤ a / b := Nat.div_pos (by omega) h
  have h4 : b * 1 ≤ b * (a / b) := Nat.mul_le_mul_left b h3
  omega
theorem cmp0 {y : Int64} : lg_cmp y 0 = 0 ↔ y = 0 := lg_cmp_eq _ _
theorem common_ok : ∀ (k : Nat) {d : Nat} (y0 y2 : Int64), y2.toInt.natAbs < 2 ^ k → Ct ad μX12_common (d + (2 * k + 1)) [.long y0, .long y2] m (fun r m' => m' = m ∧ ∃ w : Int64, r = some (.long w) ∧ (w = 0 → y0 = 0 ∧ y2 = 0)) := by
  intro k
  induction k with
  | zero =>
    intro d y0 y2 h
    have e : y2 = 0 := Int64.toInt_inj.mp (by have : (0 : Int64).toInt = 0 := rfl; omega)
    refine v_X12_common ⟨fun c => absurd (cmp0.mpr e) c, fun _ => ⟨rfl, _, rfl, fun q => ⟨q, e⟩⟩⟩
  | succ k ih =>
    intro d y0 y2 h
    have z0 : (0 : Int64).toInt = 0 := rfl
    refine v_X12_common (d := d + (2 * k + 2)) ⟨fun c => ?_, fun c => ⟨rfl, _, rfl, fun q => ⟨q, cmp0.mp c⟩⟩⟩
    have hy : y2 ≠ 0 := fun q => c (cmp0.mpr q)
    have hy' : y2.toInt ≠ 0 := fun q => hy (Int64.toInt_inj.mp (q.trans z0.symm))
    refine ⟨hy, ?_⟩
    have e1 := rem64_toInt y0 y2 hy
    generalize hr : y0 - y0 / y2 * y2 = r1 at *
    have n1 : r1.toInt.natAbs < y2.toInt.natAbs := by
      rw [e1, Int.natAbs_tmod]
      exact Nat.mod_lt _ (by omega)
    refine Ct.to (Q := fun r m' => m' = m ∧ ∃ w : Int64, r = some (.long w) ∧ (w = 0 → y2 = 0 ∧ r1 = 0)) ?_ ?_
    · refine v_X12_common (d := d + (2 * k + 1)) ⟨fun c1 => ?_, fun c1 => ⟨rfl, _, rfl, fun q => ⟨q, cmp0.mp c1⟩⟩⟩
      have hr0 : r1 ≠ 0 := fun q => c1 (cmp0.mpr q)
      have hr' : r1.toInt ≠ 0 := fun q => hr0 (Int64.toInt_inj.mp (q.trans z0.symm))
      refine ⟨hr0, ?_⟩
      have e2 := rem64_toInt y2 r1 hr0
      refine (ih _ _ ?_).to ?_
      · rw [e2, Int.natAbs_tmod]
        have := half_mod (a := y2.toInt.natAbs) (b := r1.toInt.natAbs) (by omega) n1
        rw [Nat.pow_succ] at h
        omega
      · rintro _ m' ⟨eq, w, rfl, hw⟩
        obtain rfl := eq.symm
        exact ⟨w, rfl, rfl, w, rfl, fun q => absurd (hw q).1 hr0⟩
    · rintro _ m' ⟨eq, w, rfl, hw⟩
      obtain rfl := eq.symm
      exact ⟨w, rfl, rfl, w, rfl, fun q => absurd (hw q).1 hy⟩
theorem s_X12_tellPart {d : Nat} {y1 y3 : Int64} (w : WT m) (h3 : y3 ≠ 0) (i1 : (m.1 187 16).toInt ≤ 14) : Ct ad μX12_tellPart (d + 140) [.ref (ad 187), .long y1, .long y3] m (fun r m' => WT m' ∧ Fx (RS [26]) m m' ∧ r = none ∧ ((m'.1 187 16).toInt = (m.1 187 16).toInt + 2)) := by
  refine v_X12_tellPart (d := d + 139) ?_
  refine (common_ok (d := d + 8) 65 y1 y3 ?_).to ?_
  · have h1 := Int64.le_toInt y3
    have h2 := Int64.toInt_lt y3
    have : (2 : Nat) ^ 65 = 36893488147419103232 := by decide
    omega
  rintro _ m' ⟨eq, v, rfl, hv⟩
  obtain rfl := eq.symm
  have hv0 : v ≠ 0 := fun q => h3 (hv q).2
  refine ⟨v, rfl, hv0, (s_X12_tell w (by omega)).to ?_⟩
  rintro _ m1 ⟨w1, f1, rfl, p1⟩
  refine ⟨rfl, hv0, (s_X12_tell w1 (by omega)).to ?_⟩
  rintro _ m2 ⟨w2, f2, rfl, p2⟩
  exact ⟨rfl, w2, f1.tr f2 (RS_sub rfl), rfl, by omega⟩
def hp (k : Nat) : Int64 := match k with | 0 => 1 | k + 1 => hp k * 100
theorem hp_ne : ∀ k : Fin 7, hp k.val ≠ 0 := by decide +kernel
theorem power100_ok {d n : Nat} (hn : n ≤ 6) : Ct ad μX12_power100 d [.int (nI n)] m (fun r m' => m' = m ∧ r = some (.long (hp n))) := by
  refine v_X12_power100 ?_
  have := down (N := n) (P := fun k => AW ad E0 μX12_power100 d (fun r m' => m' = m ∧ r = some (.long (hp n))) 4 [(0, .int (nI n)), (1, .long (hp k)), (3, .int (nI k))] [] m) ?_ ?_ (Nat.zero_le n)
  · exact this
  · exact g_X12_power100_4 ⟨fun _ => ⟨rfl, rfl⟩, fun h => absurd ((nI_leI (by omega) (by omega)).mpr (Nat.le_refl _)) h⟩
  · intro k hk ih
    refine g_X12_power100_4 ⟨fun h => absurd ((nI_leI (by omega) (by omega)).mp h) (by omega), fun _ => ?_⟩
    rw [nI_1]
    exact ih
theorem s_X12_power100 {d : Nat} {x0 : Int32} (w : WT m) (i1 : (0 : Int) ≤ x0.toInt) (i2 : x0.toInt ≤ (6 : Int)) : Ct ad μX12_power100 d [.int x0] m (fun r m' => WT m' ∧ Fx (RS []) m m' ∧ ∃ v : Int64, r = some (.long v) ∧ v ≠ 0) := by
  obtain ⟨s, hs, rfl⟩ := zn_of i1
  rw [nI_toInt hs] at i2
  refine (power100_ok (by omega)).to ?_
  rintro _ m' ⟨eq, rfl⟩
  obtain rfl := eq.symm
  exact ⟨w, Fx.rf, _, rfl, hp_ne ⟨s, by omega⟩⟩
end GC
end
section
/-! STATES (model): the table always has an empty place; depth and parent -/
section STS
variable {ad : Nat → Nat} {m : Wm}
def czf (f : Nat → Int32) : Nat → Nat
  | 0 => 0
  | n + 1 => czf f n + (if f n = 0 then 0 else 1)
theorem czf_ex {f : Nat → Int32} : ∀ n, czf f n < n → ∃ z, z < n ∧ f z = 0 := by
  intro n
  induction n with
  | zero => intro h; exact absurd h (by omega)
  | succ n ih =>
    intro h
    by_cases hf : f n = 0
    · exact ⟨n, by omega, hf⟩
    · have h2 : czf f n + (if f n = 0 then 0 else 1) < n + 1 := h
      rw [if_neg hf] at h2
      obtain ⟨z, hz, e⟩ := ih (by omega)
      exact ⟨z, by omega, e⟩
theorem czf_upd {f g : Nat → Int32} {p : Nat} (h : ∀ j, j ≠ p → g j = f j) : ∀ n, (p < n → czf g n ≤ czf f n + 1) ∧ (n ≤ p → czf g n = czf f n) := by
  intro n
  induction n with
  | zero => exact ⟨fun q => absurd q (by omega), fun _ => rfl⟩
  | succ n ih =>
    have e1 : czf g (n + 1) = czf g n + (if g n = 0 then 0 else 1) := rfl
    have e2 : czf f (n + 1) = czf f n + (if f n = 0 then 0 else 1) := rfl
    rw [e1, e2]
    by_cases hp : n = p
    · have e3 := ih.2 (by omega)
      refine ⟨fun _ => ?_, fun q => absurd q (by omega)⟩
      rw [e3]
      split <;> split <;> omega
    · rw [h n hp]
      refine ⟨fun q => ?_, fun q => ?_⟩
      · have := ih.1 (by omega)
        omega
      · have := ih.2 (by omega)
        omega
def ST (m : Wm) : Prop := (czf (m.1 210) 8192 : Int) ≤ (m.1 187 43).toInt ∧ (∀ k, k < 8192 → (m.1 210 k).toInt ≤ (m.1 187 43).toInt) ∧ (∀ k : Nat, (k : Int) < (m.1 187 43).toInt → (m.1 207 k).toInt = 0 ∨ ∃ p : Nat, m.1 208 k = nI p ∧ p < k ∧ (m.1 207 k).toInt = (m.1 207 p).toInt + 1)
theorem ST.fx {m m' : Wm} {S : List Nat} (h : ST m) (f : Fx (RS S) m m') (h35 : S.elem 35 = false) : ST m' := by
  have e1 := fx_cell (a := 210) (ρ := 35) f (fun _ => rfl) h35
  have e2 := fx_cell (a := 207) (ρ := 35) f (fun _ => rfl) h35
  have e3 := fx_cell (a := 208) (ρ := 35) f (fun _ => rfl) h35
  have e4 : m'.1 187 43 = m.1 187 43 := f.at (fun q => by unfold RS at q; rw [show rg 187 43 = 35 from rfl, h35] at q; cases q)
  unfold ST
  rw [e1, e2, e3, e4]
  exact h
theorem and8191 {x : Nat} (h : x < 8192) : (nI x + 1) &&& (8191 : Int32) = nI ((x + 1) % 8192) := by
  rw [nI_1]
  apply Int32.toBitVec_inj.mp
  apply BitVec.eq_of_toNat_eq
  show (BitVec.ofNat 32 (x + 1) &&& (8191#32)).toNat = (BitVec.ofNat 32 ((x + 1) % 8192)).toNat
  have e1 : (BitVec.ofNat 32 (x + 1)).toNat = x + 1 := by rw [BitVec.toNat_ofNat]; exact Nat.mod_eq_of_lt (by omega)
  have e2 : (BitVec.ofNat 32 ((x + 1) % 8192)).toNat = (x + 1) % 8192 := by rw [BitVec.toNat_ofNat]; exact Nat.mod_eq_of_lt (by omega)
  rw [BitVec.toNat_and, e1, e2]
  exact Nat.and_two_pow_sub_one_eq_mod (x + 1) 13
theorem hash_in (h : UInt64) : ∃ v : Nat, v < 8192 ∧ ((h >>> ((51 : Int32).toInt64.toUInt64 &&& Int64.toUInt64 63)).toInt64).toInt32 = nI v := by
  have e : ((51 : Int32).toInt64.toUInt64 &&& Int64.toUInt64 63) = 51 := by decide
  rw [e]
  have hs : (h >>> (51 : UInt64)).toNat = h.toNat >>> 51 := by
    rw [UInt64.toNat_shiftRight]
    rfl
  have hb : h.toNat >>> 51 < 8192 := by
    have := UInt64.toNat_lt h
    rw [Nat.shiftRight_eq_div_pow]
    have : (2 : Nat) ^ 51 = 2251799813685248 := by decide
    omega
  refine ⟨(h >>> (51 : UInt64)).toNat, by omega, ?_⟩
  apply Int32.toBitVec_inj.mp
  apply BitVec.eq_of_toNat_eq
  show ((h >>> (51 : UInt64)).toBitVec.signExtend 32).toNat = (BitVec.ofNat 32 (h >>> (51 : UInt64)).toNat).toNat
  rw [BitVec.signExtend_eq_setWidth_of_le _ (by decide), BitVec.toNat_setWidth, BitVec.toNat_ofNat]
  rfl
theorem slot_ok {d : Nat} {y1 y3 : Int64} (w : WT m) (h : (czf (m.1 210) 8192 : Int) ≤ 3000) : Ct ad μX12_slot d [.ref (ad 187), .long y1, .long y3] m (fun r m' => m' = m ∧ ∃ v : Nat, r = some (.int (nI v)) ∧ v < 8192) := by
  obtain ⟨z, hz, e0⟩ := czf_ex 8192 (f := m.1 210) (by omega)
  have L : ∀ n x : Nat, x < 8192 → (z + 8192 - x) % 8192 ≤ n → AW ad E0 μX12_slot d (fun r m' => m' = m ∧ ∃ v : Nat, r = some (.int (nI v)) ∧ v < 8192) 21 [(0, .ref (ad 187)), (1, .long y1), (3, .long y3), (7, .int (nI x))] [] m := by
    intro n
    induction n with
    | zero =>
      intro x hx hm
      have : x = z := by omega
      subst this
      refine g_X12_slot_21 ⟨nat_in hx (by decide), fun _ => ⟨rfl, x, rfl, hx⟩, fun c => absurd (by rw [nI_clamp (by omega)]; exact e0) c⟩
    | succ n ih =>
      intro x hx hm
      refine g_X12_slot_21 ⟨nat_in hx (by decide), fun _ => ⟨rfl, x, rfl, hx⟩, fun c => ?_⟩
      rw [nI_clamp (by omega)] at c ⊢
      have hxz : x ≠ z := fun q => c (by rw [q]; exact e0)
      have t := w.at (a := 210) (k := x) rfl
      have c0 := z_ne c
      have z0 : (0 : Int32).toInt = 0 := rfl
      have z1 : (1 : Int32).toInt = 1 := rfl
      have t1 := ti_subc (x := m.1 210 x) (y := 1) (c := 1) rfl (by omega)
      have step : AW ad E0 μX12_slot d (fun r m' => m' = m ∧ ∃ v : Nat, r = some (.int (nI v)) ∧ v < 8192) 69 [(0, .ref (ad 187)), (1, .long y1), (3, .long y3), (7, .int (nI x))] [] m := by
        refine g_X12_slot_69 ?_
        rw [and8191 hx]
        exact ih _ (Nat.mod_lt _ (by decide)) (by omega)
      refine ⟨nat_in hx (by decide), vpi (by omega) (by omega), fun _ => step, fun _ => ⟨nat_in hx (by decide), vpi (by omega) (by omega), fun _ => ⟨rfl, x, rfl, hx⟩, fun _ => step⟩⟩
  refine v_X12_slot ?_
  obtain ⟨v, hv, e⟩ := hash_in ((y1 * (-7046029254386353131 : Int64)) ^^^ (y3 * (-4417276706812531889 : Int64))).toUInt64
  rw [e]
  exact L 8192 v hv (by omega)
end STS
end
section
section ST2
variable {ad : Nat → Nat} {m : Wm}
theorem czf_zero {f : Nat → Int32} : ∀ n, (∀ k, k < n → f k = 0) → czf f n = 0 := by
  intro n
  induction n with
  | zero => intro _; rfl
  | succ n ih =>
    intro h
    show czf f n + (if f n = 0 then 0 else 1) = 0
    rw [ih (fun k hk => h k (by omega)), h n (by omega)]
    rfl
theorem s_X12_clearStates {d : Nat} (w : WT m) : Ct ad μX12_clearStates (d + 1) [.ref (ad 187)] m (fun r m' => WT m' ∧ Fx (RS [24, 34, 35]) m m' ∧ r = none ∧ ST m' ∧ (m'.1 187 43).toInt = 0) := by
  have z0 : (0 : Int32).toInt = 0 := rfl
  have L2 : ∀ n x (m1 : Wm), x + n = 32 → WT m1 → Fx (RS [24, 34, 35]) m m1 → ST m1 → (m1.1 187 43).toInt = 0 → AW ad E0 μX12_clearStates (d + 1) (fun r m' => WT m' ∧ Fx (RS [24, 34, 35]) m m' ∧ r = none ∧ ST m' ∧ (m'.1 187 43).toInt = 0) 34 [(0, .ref (ad 187)), (1, .int (nI x))] [] m1 := by
    intro n
    induction n with
    | zero =>
      intro x m1 hx w1 f1 s1 e1
      obtain rfl : x = 32 := by omega
      refine g_X12_clearStates_34 ⟨fun _ => (s_X12_lay_204 w1 (by decide) (by decide)).to ?_, fun c => absurd (by decide) c⟩
      rintro _ m2 ⟨w2, f2, rfl⟩
      refine ⟨rfl, w2, f1.tr f2 (RS_sub rfl), rfl, s1.fx f2 rfl, ?_⟩
      rw [f2.at (a := 187) (k := 43) (by decide)]
      exact e1
    | succ n ih =>
      intro x m1 hx w1 f1 s1 e1
      refine g_X12_clearStates_34 ⟨fun c => absurd ((le_l 32 32 rfl (by omega) (by omega)).mp c) (by omega), fun _ => ⟨nat_in (by omega) (by decide), ?_⟩⟩
      rw [nI_1]
      refine ih (x + 1) _ (by omega) (w1.n rfl) (f1.i rfl) ?_ e1
      exact s1.fx (S := [24]) ((Fx.rf (m := m1)).i rfl) rfl
  have L1 : ∀ n x (m1 : Wm), x + n = 8192 → WT m1 → Fx (RS [24, 34, 35]) m m1 → (∀ k, k < x → m1.1 210 k = 0) → AW ad E0 μX12_clearStates (d + 1) (fun r m' => WT m' ∧ Fx (RS [24, 34, 35]) m m' ∧ r = none ∧ ST m' ∧ (m'.1 187 43).toInt = 0) 2 [(0, .ref (ad 187)), (1, .int (nI x))] [] m1 := by
    intro n
    induction n with
    | zero =>
      intro x m1 hx w1 f1 h
      obtain rfl : x = 8192 := by omega
      refine g_X12_clearStates_2 ⟨fun _ => ?_, fun c => absurd (by decide) c⟩
      obtain ⟨sd, es, -, s1, s2, -⟩ := w1.nat (a := 187) (k := 1) rfl (by decide)
      show AW ad E0 μX12_clearStates (d + 1) _ 34 [(0, .ref (ad 187)), (1, .int ((4 : Int32) * (m1.1 187 1)))] [] (uI m1 187 43 0)
      rw [es, l_mul 4 4 rfl]
      refine L2 (32 - 4 * sd) _ _ (by omega) (w1.t rfl (by decide) (by decide)) (f1.i rfl) ⟨?_, fun k hk => ?_, fun k hk => absurd (show (k : Int) < 0 from hk) (by omega)⟩ rfl
      · show ((czf (m1.1 210) 8192 : Nat) : Int) ≤ 0
        rw [czf_zero 8192 h]
        decide
      · show (m1.1 210 k).toInt ≤ 0
        rw [h k hk]
        decide
    | succ n ih =>
      intro x m1 hx w1 f1 h
      refine g_X12_clearStates_2 ⟨fun c => absurd ((le_l 8192 8192 rfl (by omega) (by omega)).mp c) (by omega), fun _ => ⟨nat_in (by omega) (by decide), ?_⟩⟩
      rw [nI_1]
      refine ih (x + 1) _ (by omega) (w1.t rfl (by decide) (by decide)) (f1.i rfl) (fun k hk => ?_)
      show (if 210 = 210 ∧ k = (nI x).toNatClampNeg then (0 : Int32) else m1.1 210 k) = 0
      rw [nI_clamp (by omega)]
      by_cases hkx : k = x
      · rw [if_pos ⟨rfl, hkx⟩]
      · rw [if_neg (fun q => hkx q.2)]
        exact h k (by omega)
  exact v_X12_clearStates (L1 8192 0 m rfl w Fx.rf (fun k hk => absurd hk (by omega)))
def snM (m : Wm) (n v : Nat) (w2 w4 : Int64) (x1 x2 D : Int32) : Wm := uI (uI (uI (uI (uI (uL (uL m 205 n w2) 206 n w4) 208 n x1) 209 n x2) 207 n D) 187 43 (nI (n + 1))) 210 v (nI (n + 1))
theorem sn_facts {n v : Nat} {w2 w4 : Int64} {x1 x2 D : Int32} (w : WT m) (s : ST m) (en : m.1 187 43 = nI n) (hn : n < 3000) (hv : v < 8192) (hz : m.1 210 v = 0) (hx1 : (-1 : Int) ≤ x1.toInt) (hx2 : x1.toInt ≤ 2999) (hD1 : 0 ≤ D.toInt) (hD2 : D.toInt ≤ (n : Int)) (hD : D.toInt = 0 ∨ ∃ p : Nat, x1 = nI p ∧ p < n ∧ D.toInt = (m.1 207 p).toInt + 1) : WT (snM m n v w2 w4 x1 x2 D) ∧ Fx (RS [35]) m (snM m n v w2 w4 x1 x2 D) ∧ ST (snM m n v w2 w4 x1 x2 D) := by
  have t1 : (nI (n + 1)).toInt = (n : Int) + 1 := by rw [nI_toInt (by omega)]; omega
  have t0 : (nI n).toInt = (n : Int) := nI_toInt (by omega)
  obtain ⟨s1, s2, s3⟩ := s
  rw [en, t0] at s1 s2 s3
  refine ⟨?_, ?_, ?_⟩
  · unfold snM
    exact (((((w.l.l.t rfl hx1 hx2).n rfl).t rfl hD1 hD2).t rfl (by omega) (by omega)).t rfl (by omega) (by omega))
  · unfold snM
    exact (((((((Fx.rf (S := RS [35]) (m := m)).l (a := 205) rfl).l (a := 206) rfl).i (a := 208) rfl).i (a := 209) rfl).i (a := 207) rfl).i (a := 187) (k := 43) rfl).i (a := 210) rfl
  · have e43 : (snM m n v w2 w4 x1 x2 D).1 187 43 = nI (n + 1) := rfl
    have e210 : ∀ j, (snM m n v w2 w4 x1 x2 D).1 210 j = if j = v then nI (n + 1) else m.1 210 j := by
      intro j
      show (if 210 = 210 ∧ j = v then nI (n + 1) else m.1 210 j) = _
      by_cases hj : j = v
      · rw [if_pos ⟨rfl, hj⟩, if_pos hj]
      · rw [if_neg (fun q => hj q.2), if_neg hj]
    have e207 : ∀ j, (snM m n v w2 w4 x1 x2 D).1 207 j = if j = n then D else m.1 207 j := by
      intro j
      show (if 207 = 207 ∧ j = n then D else m.1 207 j) = _
      by_cases hj : j = n
      · rw [if_pos ⟨rfl, hj⟩, if_pos hj]
      · rw [if_neg (fun q => hj q.2), if_neg hj]
    have e208 : ∀ j, (snM m n v w2 w4 x1 x2 D).1 208 j = if j = n then x1 else m.1 208 j := by
      intro j
      show (if 208 = 208 ∧ j = n then x1 else m.1 208 j) = _
      by_cases hj : j = n
      · rw [if_pos ⟨rfl, hj⟩, if_pos hj]
      · rw [if_neg (fun q => hj q.2), if_neg hj]
    unfold ST
    rw [e43, t1]
    refine ⟨?_, fun k hk => ?_, fun k hk => ?_⟩
    · have := (czf_upd (f := m.1 210) (g := (snM m n v w2 w4 x1 x2 D).1 210) (p := v) (fun j hj => by rw [e210, if_neg hj]) 8192).1 hv
      omega
    · rw [e210]
      by_cases hj : k = v
      · rw [if_pos hj, t1]; exact Int.le_refl _
      · rw [if_neg hj]
        have := s2 k hk
        omega
    · by_cases hj : k = n
      · rw [e207, if_pos hj, e208, if_pos hj]
        rcases hD with h | ⟨p, h1, h2, h3⟩
        · exact Or.inl h
        · refine Or.inr ⟨p, h1, by omega, ?_⟩
          rw [e207, if_neg (by omega)]
          exact h3
      · rw [e207, if_neg hj, e208, if_neg hj]
        rcases s3 k (by omega) with h | ⟨p, h1, h2, h3⟩
        · exact Or.inl h
        · refine Or.inr ⟨p, h1, h2, ?_⟩
          rw [e207, if_neg (by omega)]
          exact h3
theorem s_X12_stateNow {d : Nat} {x1 x2 : Int32} (w : WT m) (s : ST m) (i1 : x1.toInt = -1 ∨ (0 ≤ x1.toInt ∧ x1.toInt < (m.1 187 43).toInt)) : Ct ad μX12_stateNow (d + 1) [.ref (ad 187), .int x1, .int x2, .int 3000] m (fun r m' => WT m' ∧ Fx (RS [35]) m m' ∧ ST m' ∧ ((m'.1 187 43).toInt = (m.1 187 43).toInt ∨ (m'.1 187 43).toInt = (m.1 187 43).toInt + 1) ∧ (1 ≤ (m'.1 187 43).toInt ∨ (m.1 187 43).toInt = 3000) ∧ ∃ v : Int32, r = some (.int v) ∧ (-1 : Int) ≤ v.toInt ∧ v.toInt ≤ 2999 ∧ (v.toInt = -1 → (m.1 187 43).toInt = 3000) ∧ v.toInt < (m'.1 187 43).toInt) := by
  have z0 : (0 : Int32).toInt = 0 := rfl
  have z1 : (1 : Int32).toInt = 1 := rfl
  have zn1 : (-1 : Int32).toInt = -1 := rfl
  refine v_X12_stateNow ((s_X12_half w (by decide) (by decide)).to ?_)
  rintro _ m1 ⟨w1, f1, w2, rfl⟩
  refine ⟨w2, rfl, (s_X12_half w1 (by decide) (by decide)).to ?_⟩
  rintro _ m3 ⟨w3, f3, w4, rfl⟩
  have f3' : Fx (RS []) m m3 := f1.tr f3 (RS_sub rfl)
  have s3 := s.fx f3' rfl
  have t43 := w3.at (a := 187) (k := 43) rfl
  refine ⟨w4, rfl, (slot_ok w3 (by have := s3.1; omega)).to ?_⟩
  rintro _ m5 ⟨eq, v, rfl, hv⟩
  obtain rfl := eq.symm
  have e43 : m3.1 187 43 = m.1 187 43 := f3'.at (by decide)
  rw [← e43] at i1 ⊢
  obtain ⟨n, en, cn, n1, n2, n3⟩ := w3.nat (a := 187) (k := 43) rfl (by decide)
  refine ⟨nI v, rfl, nat_in hv (by decide), fun hz => ⟨fun h3 => ?_, fun h3 => ?_⟩, fun hz => ⟨nat_in hv (by decide), w3, (Fx.rf (S := RS [35])).tr f3' (RS_sub rfl), s3, Or.inl rfl, ?_⟩⟩
  · have hn : n < 3000 := by
      have h4 := z_ne h3
      have h5 : (3000 : Int32).toInt = 3000 := rfl
      rw [en, nI_toInt n3] at h4
      omega
    have V : vp_in (m3.1 187 43) 3000 := by rw [en]; exact nat_in hn (by decide)
    rw [nI_clamp (by omega)] at hz
    have d1 : x1.toInt ≤ 2999 := by rw [en, nI_toInt n3] at i1; omega
    have fin : ∀ (Q : Option Value → Wm → Prop) (D : Int32) (k : Nat) (b : Int32), k = n → b = nI n → Q (some (.int (nI n))) (snM m3 n v w2 w4 x1 x2 D) → AW ad E0 μX12_stateNow (d + 1) Q 122 [(0, .ref (ad 187)), (8, .int (nI v))] [.int D, .int b, .ref (ad 207)] (uI (uI (uL (uL m3 205 k w2) 206 k w4) 208 k x1) 209 k x2) := by
      intro Q D k b hk hb hq
      rw [hk, hb]
      refine g_X12_stateNow_122 (e2 := 207) ly_207 ⟨nat_in (by omega) (by decide), nat_in hv (by decide), ?_⟩
      rw [nI_clamp (by omega), nI_clamp (by omega)]
      show Q (some (.int (m3.1 187 43 + 1 - 1))) (uI (uI (uI (uI (uI (uL (uL m3 205 n w2) 206 n w4) 208 n x1) 209 n x2) 207 n D) 187 43 (m3.1 187 43 + 1)) 210 v (m3.1 187 43 + 1))
      have eS : nI n + 1 - 1 = nI n := by
        refine (fa_eq _ _).mpr ?_
        rw [nI_1, ti_subc (c := 1) rfl (by rw [nI_toInt (by omega)]; omega), nI_toInt (by omega), nI_toInt (by omega)]
        omega
      rw [en, eS, nI_1]
      exact hq
    have fin2 : ∀ D : Int32, 0 ≤ D.toInt → D.toInt ≤ (n : Int) → (D.toInt = 0 ∨ ∃ p : Nat, x1 = nI p ∧ p < n ∧ D.toInt = (m3.1 207 p).toInt + 1) → WT (snM m3 n v w2 w4 x1 x2 D) ∧ Fx (RS [35]) m (snM m3 n v w2 w4 x1 x2 D) ∧ ST (snM m3 n v w2 w4 x1 x2 D) ∧ (((snM m3 n v w2 w4 x1 x2 D).1 187 43).toInt = (m3.1 187 43).toInt ∨ ((snM m3 n v w2 w4 x1 x2 D).1 187 43).toInt = (m3.1 187 43).toInt + 1) ∧ (1 ≤ ((snM m3 n v w2 w4 x1 x2 D).1 187 43).toInt ∨ (m3.1 187 43).toInt = 3000) ∧ ∃ v' : Int32, some (Value.int (nI n)) = some (.int v') ∧ (-1 : Int) ≤ v'.toInt ∧ v'.toInt ≤ 2999 ∧ (v'.toInt = -1 → (m3.1 187 43).toInt = 3000) ∧ v'.toInt < ((snM m3 n v w2 w4 x1 x2 D).1 187 43).toInt := by
      intro D hD1 hD2 hD
      have F := sn_facts (m := m3) (n := n) (v := v) (w2 := w2) (w4 := w4) (x1 := x1) (x2 := x2) (D := D) w3 s3 en hn hv hz (by omega) d1 hD1 hD2 hD
      have e1 : ((snM m3 n v w2 w4 x1 x2 D).1 187 43).toInt = (n : Int) + 1 := by
        show (nI (n + 1)).toInt = _
        rw [nI_toInt (by omega)]; omega
      have e2 : (nI n).toInt = (n : Int) := nI_toInt (by omega)
      rw [e1, en, e2]
      exact ⟨F.1, ((Fx.rf (S := RS [35])).tr f3' (RS_sub rfl)).tr F.2.1 (RS_sub rfl), F.2.2, Or.inr rfl, Or.inl (by omega), nI n, rfl, by omega, by omega, by omega, by omega⟩
    refine ⟨V, V, V, V, fun hx => ?_, fun hx => ?_⟩
    · have hx' : x1.toInt ≠ -1 := fun q => hx ((fa_eq _ _).mpr (q.trans zn1.symm))
      obtain ⟨p, hp, rfl⟩ := zn_of (x := x1) (by omega)
      rw [nI_toInt hp] at i1 d1
      have hp2 : p < n := by rw [en, nI_toInt n3] at i1; omega
      refine ⟨nat_in (by omega) (by decide), ?_⟩
      have t207 := w3.at (a := 207) (k := p) (lo := 0) (hi := (p : Int)) rfl
      have a1 := ti_addc (x := m3.1 207 p) (y := 1) (c := 1) rfl (by omega)
      refine fin _ _ (m3.1 187 43).toNatClampNeg (m3.1 187 43) cn en ?_
      refine fin2 _ ?_ ?_ (Or.inr ⟨p, rfl, hp2, ?_⟩)
      · show 0 ≤ (m3.1 207 (nI p).toNatClampNeg + 1).toInt
        rw [nI_clamp hp]; omega
      · show (m3.1 207 (nI p).toNatClampNeg + 1).toInt ≤ _
        rw [nI_clamp hp]; omega
      · show (m3.1 207 (nI p).toNatClampNeg + 1).toInt = _
        rw [nI_clamp hp]; exact a1
    · refine fin _ _ (m3.1 187 43).toNatClampNeg (m3.1 187 43) cn en ?_
      exact fin2 0 (by decide) (by rw [z0]; omega) (Or.inl rfl)
  · have h5 : (m3.1 187 43).toInt = 3000 := by rw [h3]; rfl
    exact ⟨w3, (Fx.rf (S := RS [35])).tr f3' (RS_sub rfl), s3, Or.inl rfl, Or.inr h5, -1, rfl, by omega, by omega, fun _ => h5, by omega⟩
  · rw [nI_clamp (by omega)] at hz ⊢
    have t1 := w3.at (a := 210) (k := v) rfl
    have t2 := s3.2.1 v hv
    have t3 := z_ne hz
    have t4 := ti_subc (x := m3.1 210 v) (y := 1) (c := 1) rfl (by omega)
    exact ⟨Or.inl (by omega), _, rfl, by omega, by omega, by omega, by omega⟩
end ST2
end
section
/-! SEARCHES (model): findRest, findStates, tellWay -/
section ST3
variable {ad : Nat → Nat} {m : Wm}
theorem findRest_ok {d : Nat} (w : WT m) : Ct ad μX12_findRest (d + 177) [.ref (ad 187)] m (fun r m' => WT m' ∧ Fx (RS [22, 24, 28, 34, 35, 49]) m m' ∧ ST m' ∧ 1 ≤ (m'.1 187 43).toInt ∧ ∃ v : Int32, r = some (.int v) ∧ (0 : Int) ≤ v.toInt ∧ v.toInt ≤ 1 ∧ (v.toInt = 0 ∨ (1 ≤ (m'.1 187 46).toInt ∧ (m'.1 187 45).toInt + (m'.1 187 46).toInt ≤ 2000))) := by
  have z0 : (0 : Int32).toInt = 0 := rfl
  have z1 : (1 : Int32).toInt = 1 := rfl
  have zn1 : (-1 : Int32).toInt = -1 := rfl
  have L : ∀ n : Nat, ∀ (m1 : Wm) (x1 : Int32) (t : Nat), t + n = 2001 → 1 ≤ t → WT m1 → Fx (RS [22, 24, 28, 34, 35, 49]) m m1 → ST m1 → 1 ≤ (m1.1 187 43).toInt → (m1.1 187 43).toInt ≤ (t : Int) → 0 ≤ x1.toInt → x1.toInt ≤ 1 → (x1.toInt = 0 ∨ (1 ≤ (m1.1 187 46).toInt ∧ (m1.1 187 45).toInt + (m1.1 187 46).toInt ≤ 2000)) →
      AW ad E0 μX12_findRest (d + 177) (fun r m' => WT m' ∧ Fx (RS [22, 24, 28, 34, 35, 49]) m m' ∧ ST m' ∧ 1 ≤ (m'.1 187 43).toInt ∧ ∃ v : Int32, r = some (.int v) ∧ (0 : Int) ≤ v.toInt ∧ v.toInt ≤ 1 ∧ (v.toInt = 0 ∨ (1 ≤ (m'.1 187 46).toInt ∧ (m'.1 187 45).toInt + (m'.1 187 46).toInt ≤ 2000))) 18 [(0, .ref (ad 187)), (1, .int x1), (2, .int (nI t))] [] m1 := by
    intro n
    induction n with
    | zero =>
      intro m1 x1 t ht h1 w1 f1 s1 a1 a2 a3 a4 a5
      refine g_X12_findRest_18 ⟨fun _ => ?_, fun c => absurd ((lt_l 2000 2000 rfl (by omega) (by omega)).mpr (by omega)) c⟩
      refine g_X12_findRest_90 ((s_X12_bring_204 w1 (by decide) (by decide)).to ?_)
      rintro _ m2 ⟨w2, f2, rfl⟩
      have e1 := f2.at (a := 187) (k := 43) (by decide)
      have e2 := f2.at (a := 187) (k := 45) (by decide)
      have e3 := f2.at (a := 187) (k := 46) (by decide)
      exact ⟨rfl, bz_of (by omega) (by omega), w2, f1.tr f2 (RS_sub rfl), s1.fx f2 rfl, by rw [e1]; exact a1, x1, rfl, a3, a4, by rw [e2, e3]; exact a5⟩
    | succ n ih =>
      intro m1 x1 t ht h1 w1 f1 s1 a1 a2 a3 a4 a5
      refine g_X12_findRest_18 ⟨fun c => absurd ((lt_l 2000 2000 rfl (by omega) (by omega)).mp c) (by omega), fun _ => ⟨fun c => ?_, fun c => ?_⟩⟩
      · refine g_X12_findRest_90 ((s_X12_bring_204 w1 (by decide) (by decide)).to ?_)
        rintro _ m2 ⟨w2, f2, rfl⟩
        have e1 := f2.at (a := 187) (k := 43) (by decide)
        have e2 := f2.at (a := 187) (k := 45) (by decide)
        have e3 := f2.at (a := 187) (k := 46) (by decide)
        exact ⟨rfl, bz_of (by omega) (by omega), w2, f1.tr f2 (RS_sub rfl), s1.fx f2 rfl, by rw [e1]; exact a1, x1, rfl, a3, a4, by rw [e2, e3]; exact a5⟩
      · refine (s_X12_goTurn w1).to ?_
        rintro _ m2 ⟨w2, f2, rfl⟩
        have e1 := f2.at (a := 187) (k := 43) (by decide)
        have s2 := s1.fx f2 rfl
        refine ⟨rfl, (s_X12_stateNow w2 s2 (Or.inl zn1)).to ?_⟩
        rintro _ m3 ⟨w3, f3, s3, b1, b2, v, rfl, b3, b4, b5, b6⟩
        rw [e1] at b1 b2 b5
        have hv : v.toInt ≠ -1 := fun q => by have := b5 q; omega
        have f3' : Fx (RS [22, 24, 28, 34, 35, 49]) m m3 := (f1.tr f2 (RS_sub rfl)).tr f3 (RS_sub rfl)
        refine ⟨v, rfl, fun c3 => ?_, fun c3 => ?_⟩
        · refine g_X12_findRest_62 ⟨fun q => absurd rfl q, fun _ => ?_⟩
          rw [nI_1]
          exact ih m3 0 (t + 1) (by omega) (by omega) w3 f3' s3 (by omega) (by omega) (by decide) (by decide) (Or.inl rfl)
        · have c4 : (m3.1 187 43).toInt = (m2.1 187 43).toInt := congrArg _ c3
          rw [e1] at c4
          refine g_X12_findRest_62 ⟨fun _ => ?_, fun q => absurd q (by decide)⟩
          have tt : (nI t).toInt = (t : Int) := nI_toInt (by omega)
          have q1 := ti_sub (x := nI t) (y := v) (by omega)
          rw [nI_1]
          refine ih _ 1 (t + 1) (by omega) (by omega) ((w3.t rfl (by omega) (by omega)).t rfl (by rw [q1]; omega) (by rw [q1]; omega)) ((f3'.i rfl).i rfl) s3 (by show 1 ≤ (m3.1 187 43).toInt; omega) (by show (m3.1 187 43).toInt ≤ _; omega) (by decide) (by decide) (Or.inr ?_)
          show 1 ≤ (nI t - v).toInt ∧ v.toInt + (nI t - v).toInt ≤ 2000
          rw [q1]
          omega
  refine v_X12_findRest ((s_X12_clearStates w).to ?_)
  rintro _ m1 ⟨w1, f1, rfl, s1, e1⟩
  refine ⟨rfl, (s_X12_stateNow w1 s1 (Or.inl zn1)).to ?_⟩
  rintro _ m2 ⟨w2, f2, s2, b1, b2, v, rfl, b3, b4, b5, b6⟩
  refine ⟨v, rfl, ?_⟩
  exact L 2000 m2 0 1 (by decide) (by decide) w2 (((Fx.rf (S := RS [22, 24, 28, 34, 35, 49])).tr f1 (RS_sub rfl)).tr f2 (RS_sub rfl)) s2 (by omega) (by omega) (by decide) (by decide) (Or.inl rfl)
theorem s_X12_findRest {d : Nat} (w : WT m) : Ct ad μX12_findRest (d + 177) [.ref (ad 187)] m (fun r m' => WT m' ∧ Fx (RS [22, 24, 28, 34, 35, 49]) m m' ∧ ∃ v : Int32, r = some (.int v) ∧ (0 : Int) ≤ v.toInt ∧ v.toInt ≤ 1 ∧ (v.toInt = 0 ∨ (1 ≤ (m'.1 187 46).toInt ∧ (m'.1 187 45).toInt + (m'.1 187 46).toInt ≤ 2000))) :=
  (findRest_ok w).to (by rintro _ m' ⟨h1, h2, -, -, h3⟩; exact ⟨h1, h2, h3⟩)
end ST3
section ST4
variable {ad : Nat → Nat} {m : Wm}
def fsQ (m : Wm) (r : Option Value) (m' : Wm) : Prop := WT m' ∧ Fx (RS [22, 24, 28, 34, 35, 49]) m m' ∧ ST m' ∧ 1 ≤ (m'.1 187 43).toInt ∧ ∃ v : Int32, r = some (.int v) ∧ (0 : Int) ≤ v.toInt ∧ v.toInt ≤ 1
def fsI (m m1 : Wm) (x2 x3 : Int32) : Prop := WT m1 ∧ Fx (RS [22, 24, 28, 34, 35, 49]) m m1 ∧ ST m1 ∧ 1 ≤ (m1.1 187 43).toInt ∧ 0 ≤ x2.toInt ∧ x2.toInt ≤ 1 ∧ 0 ≤ x3.toInt
theorem fs_loop {d : Nat} {x1 : Int32} : ∀ n : Nat,
    (∀ (m1 : Wm) (x2 x3 : Int32), fsI m m1 x2 x3 → x3.toInt ≤ 3000 → (3000 - x3.toInt) * 1000 + 900 < (n : Int) → AW ad E0 μX12_findStates (d + 177) (fsQ m) 18 [(0, .ref (ad 187)), (1, .int x1), (2, .int x2), (3, .int x3)] [] m1) ∧
    (∀ (m1 : Wm) (x2 x3 x4 : Int32), fsI m m1 x2 x3 → x3.toInt < (m1.1 187 43).toInt → 0 ≤ x4.toInt → x4.toInt ≤ 3 → (3000 - x3.toInt) * 1000 + (3 - x4.toInt) * 200 + 190 < (n : Int) → AW ad E0 μX12_findStates (d + 177) (fsQ m) 46 [(0, .ref (ad 187)), (1, .int x1), (2, .int x2), (3, .int x3), (4, .int x4)] [] m1) ∧
    (∀ (m1 : Wm) (x2 x3 x4 x5 : Int32), fsI m m1 x2 x3 → x3.toInt < (m1.1 187 43).toInt → 0 ≤ x4.toInt → x4.toInt ≤ 2 → 0 ≤ x5.toInt → x5.toInt ≤ 8 → (3000 - x3.toInt) * 1000 + (3 - x4.toInt) * 200 + (8 - x5.toInt) * 20 + 19 < (n : Int) → AW ad E0 μX12_findStates (d + 177) (fsQ m) 55 [(0, .ref (ad 187)), (1, .int x1), (2, .int x2), (3, .int x3), (4, .int x4), (5, .int x5)] [] m1) ∧
    (∀ (m1 : Wm) (x2 x3 x4 x5 x6 : Int32), fsI m m1 x2 x3 → x3.toInt < (m1.1 187 43).toInt → 0 ≤ x4.toInt → x4.toInt ≤ 2 → 0 ≤ x5.toInt → x5.toInt ≤ 7 → 0 ≤ x6.toInt → x6.toInt ≤ 9 → (3000 - x3.toInt) * 1000 + (3 - x4.toInt) * 200 + (8 - x5.toInt) * 20 + (9 - x6.toInt) < (n : Int) → AW ad E0 μX12_findStates (d + 177) (fsQ m) 70 [(0, .ref (ad 187)), (1, .int x1), (2, .int x2), (3, .int x3), (4, .int x4), (5, .int x5), (6, .int x6)] [] m1) := by
  intro n
  have z0 : (0 : Int32).toInt = 0 := rfl
  have z1 : (1 : Int32).toInt = 1 := rfl
  have zn1 : (-1 : Int32).toInt = -1 := rfl
  induction n with
  | zero =>
    refine ⟨fun m1 x2 x3 I a b => ?_, fun m1 x2 x3 x4 I a b c e => ?_, fun m1 x2 x3 x4 x5 I a b c e f g => ?_, fun m1 x2 x3 x4 x5 x6 I a b c e f g h i => ?_⟩
    all_goals have t43 := I.1.at (a := 187) (k := 43) rfl
    all_goals exfalso
    all_goals omega
  | succ n ih =>
    have fin : ∀ (m1 : Wm) (x2 x3 : Int32), fsI m m1 x2 x3 → AW ad E0 μX12_findStates (d + 177) (fsQ m) 154 [(0, .ref (ad 187)), (2, .int x2)] [] m1 := by
      intro m1 x2 x3 ⟨w1, f1, s1, a1, a2, a3, a4⟩
      refine g_X12_findStates_154 ((s_X12_bring_204 w1 (by decide) (by decide)).to ?_)
      rintro _ m2 ⟨w2, f2, rfl⟩
      have e1 := f2.at (a := 187) (k := 43) (by decide)
      exact ⟨rfl, bz_of (by omega) (by omega), w2, f1.tr f2 (RS_sub rfl), s1.fx f2 rfl, by rw [e1]; exact a1, x2, rfl, a2, a3⟩
    refine ⟨fun m1 x2 x3 I a b => ?_, fun m1 x2 x3 x4 I a b c e => ?_, fun m1 x2 x3 x4 x5 I a b c e f g => ?_, fun m1 x2 x3 x4 x5 x6 I a b c e f g h i => ?_⟩
    · have I' := I
      obtain ⟨w1, f1, s1, a1, a2, a3, a4⟩ := I
      have t43 := w1.at (a := 187) (k := 43) rfl
      refine g_X12_findStates_18 ⟨fun _ => fin _ _ _ I', fun c => ⟨fun _ => fin _ _ _ I', fun _ => ?_⟩⟩
      have c' := z_nle c
      have t1 := ti_addc (x := x3) (y := 1) (c := 1) rfl (by omega)
      refine ⟨vpi (by omega) (by omega), fun _ => ih.2.1 _ _ _ _ I' (by omega) (by decide) (by decide) (by omega), fun _ => ih.1 _ _ _ ⟨w1, f1, s1, a1, a2, a3, by omega⟩ (by omega) (by omega)⟩
    · have I' := I
      obtain ⟨w1, f1, s1, a1, a2, a3, a4⟩ := I
      have t43 := w1.at (a := 187) (k := 43) rfl
      have t1 := ti_addc (x := x3) (y := 1) (c := 1) rfl (by omega)
      refine g_X12_findStates_46 ⟨fun _ => ih.1 _ _ _ ⟨w1, f1, s1, a1, a2, a3, by omega⟩ (by omega) (by omega), fun q => ?_⟩
      have q' := y_nlel (n := 3) rfl q
      exact ih.2.2.1 _ _ _ _ _ I' a b (by omega) (by decide) (by decide) (by omega)
    · have I' := I
      obtain ⟨w1, f1, s1, a1, a2, a3, a4⟩ := I
      have t43 := w1.at (a := 187) (k := 43) rfl
      have t11 := w1.at (a := 187) (k := 1) rfl
      have t1 := ti_addc (x := x4) (y := 1) (c := 1) rfl (by omega)
      have t2 := ti_addc (x := x5) (y := 1) (c := 1) rfl (by omega)
      refine g_X12_findStates_55 ⟨fun _ => ih.2.1 _ _ _ _ I' a (by omega) (by omega) (by omega), fun q => ?_⟩
      have q' := z_nle q
      exact ih.2.2.2 _ _ _ _ _ _ I' a b c e (by omega) (by omega) (by omega) (by omega)
    · have I' := I
      obtain ⟨w1, f1, s1, a1, a2, a3, a4⟩ := I
      have t43 := w1.at (a := 187) (k := 43) rfl
      have t11 := w1.at (a := 187) (k := 1) rfl
      have t2 := ti_addc (x := x5) (y := 1) (c := 1) rfl (by omega)
      have nxt := ih.2.2.1 m1 x2 x3 x4 (x5 + 1) I' a b c (by omega) (by omega) (by omega)
      refine g_X12_findStates_70 ⟨fun _ => nxt, fun q => ⟨fun _ => nxt, fun _ => ?_⟩⟩
      have q' := z_nle q
      have t3 := ti_addc (x := x6) (y := 1) (c := 1) rfl (by omega)
      refine (s_X12_load w1 (by omega) (by omega)).to ?_
      rintro _ m2 ⟨w2, f2, rfl⟩
      refine ⟨rfl, (s_X12_goQuiet w2 (by omega) (by omega) (by omega) (by omega)).to ?_⟩
      rintro _ m3 ⟨w3, f3, rfl⟩
      have f3' := (f1.tr f2 (RS_sub rfl)).tr f3 (RS_sub rfl)
      have s3 := (s1.fx f2 rfl).fx f3 rfl
      have e3 : (m3.1 187 43).toInt = (m1.1 187 43).toInt := congrArg _ ((f3.at (a := 187) (k := 43) (by decide)).trans (f2.at (a := 187) (k := 43) (by decide)))
      refine ⟨rfl, (s_X12_stateNow w3 s3 (Or.inr ⟨by omega, by omega⟩)).to ?_⟩
      rintro _ m4 ⟨w4, f4, s4, b1, b2, v, rfl, -⟩
      have f4' := f3'.tr f4 (RS_sub rfl)
      refine ⟨v, rfl, fun _ => ?_, fun _ => ?_⟩
      · exact ih.2.2.2 _ _ _ _ _ _ ⟨w4, f4', s4, by omega, by decide, by decide, a4⟩ (by omega) b c e f (by omega) (by omega) (by omega)
      · exact ih.2.2.2 _ _ _ _ _ _ ⟨w4, f4', s4, by omega, by decide, by decide, a4⟩ (by omega) b c e f (by omega) (by omega) (by omega)
theorem findStates_ok {d : Nat} {x1 : Int32} (w : WT m) : Ct ad μX12_findStates (d + 177) [.ref (ad 187), .int x1] m (fsQ m) := by
  have z0 : (0 : Int32).toInt = 0 := rfl
  have zn1 : (-1 : Int32).toInt = -1 := rfl
  refine v_X12_findStates ((s_X12_clearStates w).to ?_)
  rintro _ m1 ⟨w1, f1, rfl, s1, e1⟩
  refine ⟨rfl, (s_X12_stateNow w1 s1 (Or.inl zn1)).to ?_⟩
  rintro _ m2 ⟨w2, f2, s2, b1, b2, v, rfl, b3, b4, b5, b6⟩
  refine ⟨v, rfl, ?_⟩
  exact (fs_loop 4000000).1 m2 1 0 ⟨w2, ((Fx.rf (S := RS [22, 24, 28, 34, 35, 49])).tr f1 (RS_sub rfl)).tr f2 (RS_sub rfl), s2, by omega, by decide, by decide, by decide⟩ (by decide) (by rw [z0]; decide)
theorem s_X12_findStates {d : Nat} {x1 : Int32} (w : WT m) : Ct ad μX12_findStates (d + 177) [.ref (ad 187), .int x1] m (fun r m' => WT m' ∧ Fx (RS [22, 24, 28, 34, 35, 49]) m m' ∧ ∃ v : Int32, r = some (.int v) ∧ (0 : Int) ≤ v.toInt ∧ v.toInt ≤ 1 ∧ (1 ≤ (m'.1 187 43).toInt)) :=
  (findStates_ok w).to (by rintro _ m' ⟨h1, h2, -, h3, v, h4, h5, h6⟩; exact ⟨h1, h2, v, h4, h5, h6, h3⟩)
theorem tellWay_ok {d : Nat} {x1 : Int32} (w : WT m) (s : ST m) (i1 : 0 ≤ x1.toInt) (i2 : x1.toInt < (m.1 187 43).toInt) : Ct ad μX12_tellWay (d + 1) [.ref (ad 187), .int x1] m (fun r m' => WT m' ∧ Fx (RS [26, 38]) m m' ∧ ∃ v : Int32, r = some (.int v)) := by
  have z0 : (0 : Int32).toInt = 0 := rfl
  have zn1 : (-1 : Int32).toInt = -1 := rfl
  have L2 : ∀ n : Nat, ∀ (m1 : Wm) (x2 : Int32) (k : Nat), k + n = 10 → WT m1 → Fx (RS [26, 38]) m m1 → (m1.1 187 16).toInt = (k : Int) → AW ad E0 μX12_tellWay (d + 1) (fun r m' => WT m' ∧ Fx (RS [26, 38]) m m' ∧ ∃ v : Int32, r = some (.int v)) 53 [(0, .ref (ad 187)), (2, .int x2), (4, .int (nI k))] [] m1 := by
    intro n
    induction n with
    | zero =>
      intro m1 x2 k hk w1 f1 e1
      exact g_X12_tellWay_53 ⟨fun _ => ⟨w1, f1, _, rfl⟩, fun _ => ⟨fun _ => ⟨w1, f1, _, rfl⟩, fun c => absurd ((le_l 10 10 rfl (by omega) (by omega)).mpr (by omega)) c⟩⟩
    | succ n ih =>
      intro m1 x2 k hk w1 f1 e1
      refine g_X12_tellWay_53 ⟨fun _ => ⟨w1, f1, _, rfl⟩, fun _ => ⟨fun _ => ⟨w1, f1, _, rfl⟩, fun c => ⟨nat_in (by omega) (by decide), (s_X12_tell w1 (by omega)).to ?_⟩⟩⟩
      rintro _ m2 ⟨w2, f2, rfl, p2⟩
      refine ⟨rfl, ?_⟩
      rw [nI_1]
      exact ih m2 x2 (k + 1) (by omega) w2 (f1.tr f2 (RS_sub rfl)) (by omega)
  have L1 : ∀ j : Nat, ∀ (m1 : Wm) (x2 x3 x4 : Int32), x4.toInt = (j : Int) - 1 → j ≤ 3000 → WT m1 → Fx (RS [26, 38]) m m1 → ST m1 → (0 < j → 0 ≤ x3.toInt ∧ x3.toInt < (m1.1 187 43).toInt ∧ (m1.1 207 x3.toNatClampNeg).toInt = (j : Int)) → AW ad E0 μX12_tellWay (d + 1) (fun r m' => WT m' ∧ Fx (RS [26, 38]) m m' ∧ ∃ v : Int32, r = some (.int v)) 14 [(0, .ref (ad 187)), (2, .int x2), (3, .int x3), (4, .int x4)] [] m1 := by
    intro j
    induction j with
    | zero =>
      intro m1 x2 x3 x4 e4 hj w1 f1 s1 h
      refine g_X12_tellWay_14 ⟨fun _ => ?_, fun c => absurd (z_nlt c) (by omega)⟩
      exact L2 10 _ x2 0 (by decide) (w1.t rfl (by decide) (by decide)) (f1.i rfl) rfl
    | succ j ih =>
      intro m1 x2 x3 x4 e4 hj w1 f1 s1 h
      have t43 := w1.at (a := 187) (k := 43) rfl
      obtain ⟨h1, h2, h3⟩ := h (by omega)
      refine g_X12_tellWay_14 ⟨fun c => absurd (z_lt c) (by omega), fun _ => ?_⟩
      refine ⟨vpi (by omega) (by omega), vpi (by omega) (by omega), vpi (by omega) (by omega), ?_⟩
      obtain ⟨k, hk, rfl⟩ := zn_of h1
      rw [nI_clamp hk] at h3 ⊢
      rw [nI_toInt hk] at h1 h2
      have w2 : WT (uI m1 212 x4.toNatClampNeg (m1.1 209 k)) := w1.n rfl
      have s2 : ST (uI m1 212 x4.toNatClampNeg (m1.1 209 k)) := s1.fx (S := [38]) ((Fx.rf (m := m1)).i rfl) rfl
      rcases s1.2.2 k h2 with q | ⟨p, q1, q2, q3⟩
      · omega
      · refine ih _ _ _ _ ?_ (by omega) w2 (f1.i rfl) s2 (fun hj0 => ?_)
        · rw [ti_addc (c := -1) zn1 (by omega)]
          omega
        · show 0 ≤ (m1.1 208 k).toInt ∧ (m1.1 208 k).toInt < (m1.1 187 43).toInt ∧ (m1.1 207 (m1.1 208 k).toNatClampNeg).toInt = _
          rw [q1, nI_clamp (by omega), nI_toInt (by omega)]
          omega
  have t43 := w.at (a := 187) (k := 43) rfl
  refine v_X12_tellWay ⟨vpi (by omega) (by omega), ?_⟩
  obtain ⟨k, hk, rfl⟩ := zn_of i1
  rw [nI_clamp hk]
  rw [nI_toInt hk] at i1 i2
  have t207 := w.at (a := 207) (k := k) (lo := 0) (hi := (k : Int)) rfl
  have t1 := ti_subc (x := m.1 207 k) (y := 1) (c := 1) rfl (by omega)
  refine L1 (m.1 207 k).toInt.toNat m _ _ _ (by omega) (by omega) w Fx.rf s (fun hj => ?_)
  rw [nI_clamp hk, nI_toInt hk]
  omega
end ST4
end
section
/-! CHANCES OF GAMES AHEAD (model): chanceOfWins, hopeOf; a plan of no game has no round -/
section CW
variable {ad : Nat → Nat} {m : Wm}
theorem bm32 {z : Int} (h1 : -2147483648 ≤ z) (h2 : z < 2147483648) : z.bmod (2 ^ 32) = z := by
  have e : ((2 ^ 32 : Nat) : Int) = 4294967296 := rfl
  exact Int.bmod_eq_of_le_mul_two (by rw [e]; omega) (by rw [e]; omega)
theorem nI_rem {g G : Nat} (hg : g < 2147483648) (hG : G < 2147483648) (hG0 : 0 < G) : nI g - nI g / nI G * nI G = nI (g % G) := by
  have hm := Nat.mod_lt g hG0
  refine (fa_eq _ _).mpr ?_
  rw [Int32.toInt_sub, Int32.toInt_mul, Int32.toInt_div, Int.bmod_mul_bmod, Int.sub_bmod_bmod, Int.mul_comm, ← Int.tmod_def, nI_toInt hg, nI_toInt hG, nI_toInt (by omega)]
  have : (g : Int).tmod (G : Int) = ((g % G : Nat) : Int) := by
    rw [Int.tmod_eq_emod_of_nonneg (by omega)]
    rfl
  rw [this]
  exact bm32 (by omega) (by omega)
theorem wide_ne {x : Int32} (h : 1 ≤ x.toInt) : x.toInt64 ≠ 0 := fun q => by
  have h1 : x.toInt64.toInt = 0 := by rw [q]; rfl
  rw [Int32.toInt_toInt64] at h1
  omega
theorem ix_rem (w : WT m) {g : Nat} (hg : g < 7) (hG : 1 ≤ (m.1 187 10).toInt) : m.1 187 10 ≠ 0 ∧ ∃ r : Nat, r ≤ 39 ∧ nI g - nI g / (m.1 187 10) * (m.1 187 10) = nI r ∧ vp_in ((4 : Int32) * nI r) 160 ∧ vp_in ((4 : Int32) * nI r + 1) 160 ∧ vp_in ((4 : Int32) * nI r + 2) 160 ∧ (∀ m' : Wm, WT m' → (0 ≤ (m'.1 194 ((4 : Int32) * nI r).toNatClampNeg).toInt ∧ (m'.1 194 ((4 : Int32) * nI r).toNatClampNeg).toInt ≤ 7) ∧ (0 ≤ (m'.1 194 ((4 : Int32) * nI r + 1).toNatClampNeg).toInt ∧ (m'.1 194 ((4 : Int32) * nI r + 1).toNatClampNeg).toInt ≤ 7)) := by
  have z0 : (0 : Int32).toInt = 0 := rfl
  obtain ⟨G, e, -, G1, G2, G3⟩ := w.nat (a := 187) (k := 10) rfl (by decide)
  rw [e, nI_toInt G3] at hG
  have hr := Nat.mod_lt g (show 0 < G by omega)
  refine ⟨fun q => ?_, g % G, by omega, by rw [e]; exact nI_rem (by omega) G3 (by omega), ?_, ?_, ?_, fun m' w' => ⟨w'.p40 (x := nI (g % G)) ⟨by rw [nI_toInt (by omega)]; omega, by rw [nI_toInt (by omega)]; omega⟩, w'.p41 (x := nI (g % G)) ⟨by rw [nI_toInt (by omega)]; omega, by rw [nI_toInt (by omega)]; omega⟩⟩⟩
  · have := congrArg Int32.toInt (e.symm.trans q)
    rw [nI_toInt G3] at this
    omega
  · rw [l_mul 4 4 rfl]; exact nat_in (by omega) (by decide)
  · rw [l_mul 4 4 rfl, nI_1]; exact nat_in (by omega) (by decide)
  · rw [l_mul 4 4 rfl, add_l 2 2 rfl]; exact nat_in (by omega) (by decide)
def cwQ (m : Wm) (r : Option Value) (m' : Wm) : Prop := WT m' ∧ Fx (RS [22, 24, 28, 36, 37, 49]) m m' ∧ ∃ v : Int64, r = some (.long v)
theorem cow_ok : ∀ (k : Nat) {d : Nat} {m : Wm} {x1 x4 : Int32} {g n : Nat}, WT m → g + k = n → n ≤ 6 → 1 ≤ (m.1 187 10).toInt → Ct ad μX12_chanceOfWins (d + 2 * k + 172) [.ref (ad 187), .int x1, .int (nI g), .int (nI n), .int x4] m (cwQ m) := by
  intro k
  induction k with
  | zero =>
    intro d m x1 x4 g n w hk hn hG
    obtain rfl : g = n := by omega
    exact v_X12_chanceOfWins ⟨fun _ => ⟨w, Fx.rf, _, rfl⟩, fun _ => ⟨fun _ => ⟨fun c => absurd rfl c, fun _ => ⟨w, Fx.rf, _, rfl⟩⟩, fun _ => ⟨w, Fx.rf, _, rfl⟩⟩⟩
  | succ k ih =>
    intro d m x1 x4 g n w hk hn hG
    have cb : ∀ {m : Wm} {x5 : Int32}, WT m → 1 ≤ (m.1 187 10).toInt → Ct ad μX12_chanceBehind (d + 2 * k + 173) [.ref (ad 187), .int x1, .int (nI g), .int (nI n), .int x4, .int x5] m (cwQ m) := by
      intro m x5 w hG
      obtain ⟨hG0, r, hr, er, v0, v1, v2, hp⟩ := ix_rem w (g := g) (by omega) hG
      refine v_X12_chanceBehind (d := d + 2 * k + 172) ?_
      rw [er]
      have l57 : (57 : Int32) * nI g = nI (57 * g) := l_mul 57 57 rfl g
      have t57 : (nI (57 * g)).toInt = ((57 * g : Nat) : Int) := nI_toInt (by omega)
      rw [l57]
      refine ⟨hG0, v0, v1, (s_X12_lay_211 w (by omega) (by omega)).to ?_⟩
      rintro _ m1 ⟨w1, f1, rfl⟩
      refine ⟨rfl, v2, (s_X12_settle w1 (hp m w).1.1 (hp m w).1.2 (hp m w).2.1 (hp m w).2.2).to ?_⟩
      rintro _ m2 ⟨w2, f2, rfl⟩
      have f2' : Fx (RS [22, 24, 28, 36, 37, 49]) m m2 := ((Fx.rf (S := RS [22, 24, 28, 36, 37, 49])).tr f1 (RS_sub rfl)).tr f2 (RS_sub rfl)
      have h10 : (m2.1 187 10).toInt = (m.1 187 10).toInt := congrArg _ (f2'.at (by decide))
      have J109 : ∀ s0 : Int32, AW ad E0 μX12_chanceBehind (d + 2 * k + 173) (cwQ m) 109 [(0, .ref (ad 187)), (2, .int (nI g))] [.int s0, .int x4, .int (nI n), .int (nI g + 1), .int x1, .ref (ad 187)] m2 := by
        intro s0
        refine g_X12_chanceBehind_109 ?_
        rw [nI_1, l57]
        refine (ih w2 (by omega) hn (by omega)).to ?_
        rintro _ m3 ⟨w3, f3, v, rfl⟩
        refine ⟨v, rfl, (s_X12_bring_211 w3 (by omega) (by omega)).to ?_⟩
        rintro _ m4 ⟨w4, f4, rfl⟩
        exact ⟨rfl, w4, (f2'.tr f3 (RS_sub rfl)).tr f4 (RS_sub rfl), v, rfl⟩
      have J89 : ∀ s0 : Int32, AW ad E0 μX12_chanceBehind (d + 2 * k + 173) (cwQ m) 89 [(0, .ref (ad 187)), (1, .int x1), (2, .int (nI g)), (3, .int (nI n)), (4, .int x4)] [.int s0] m2 := fun s0 => g_X12_chanceBehind_89 ⟨fun _ => J109 0, fun _ => J109 1⟩
      have J72 : ∀ x8 : Int32, AW ad E0 μX12_chanceBehind (d + 2 * k + 173) (cwQ m) 72 [(0, .ref (ad 187)), (1, .int x1), (2, .int (nI g)), (3, .int (nI n)), (4, .int x4), (5, .int x5), (8, .int x8)] [] m2 := fun x8 => g_X12_chanceBehind_72 ⟨fun _ => J89 0, fun _ => ⟨fun _ => J89 0, fun _ => J89 1⟩⟩
      exact ⟨rfl, fun _ => J72 _, fun _ => ⟨fun _ => J89 1, fun _ => J72 _⟩⟩
    rw [show d + 2 * (k + 1) + 172 = d + 2 * k + 174 by omega]
    refine v_X12_chanceOfWins (d := d + 2 * k + 173) ⟨fun _ => ⟨w, Fx.rf, _, rfl⟩, fun _ => ⟨fun _ => ⟨fun _ => ?_, fun _ => ⟨w, Fx.rf, _, rfl⟩⟩, fun _ => ⟨w, Fx.rf, _, rfl⟩⟩⟩
    obtain ⟨hG0, r, hr, er, v0, v1, v2, hp⟩ := ix_rem w (g := g) (by omega) hG
    rw [er]
    refine ⟨hG0, v0, v1, v2, fun _ => (s_X12_chanceOf w (hp m w).1.1 (hp m w).1.2 (hp m w).2.1 (hp m w).2.2).to ?_, fun _ => (s_X12_winner w (hp m w).1.1 (hp m w).1.2 (hp m w).2.1 (hp m w).2.2).to ?_⟩
    · rintro _ m1 ⟨w1, f1, v, rfl, b1, b2⟩
      have J : ∀ (m2 : Wm) (y9 z0 : Int64), WT m2 → Fx (RS [22, 24, 28, 36, 37, 49]) m m2 → AW ad E0 μX12_chanceOfWins (d + 2 * k + 174) (cwQ m) 131 [(0, .ref (ad 187)), (1, .int x1), (2, .int (nI g)), (3, .int (nI n)), (4, .int x4), (9, .long y9)] [.long z0] m2 := by
        intro m2 y9 z0 w2 f2
        refine g_X12_chanceOfWins_131 (d := d + 2 * k + 173) ⟨fun _ => ⟨w2, f2, _, rfl⟩, fun _ => (cb w2 (by rw [f2.at (a := 187) (k := 10) (by decide)]; exact hG)).to ?_⟩
        rintro _ m3 ⟨w3, f3, v3, rfl⟩
        exact ⟨v3, rfl, w3, f2.tr f3 (RS_sub rfl), _, rfl⟩
      have f1' : Fx (RS [22, 24, 28, 36, 37, 49]) m m1 := (Fx.rf (S := RS [22, 24, 28, 36, 37, 49])).tr f1 (RS_sub rfl)
      refine ⟨v, rfl, fun _ => J m1 _ _ w1 f1', fun _ => (cb w1 (by rw [f1.at (a := 187) (k := 10) (by decide)]; exact hG)).to ?_⟩
      rintro _ m3 ⟨w3, f3, v3, rfl⟩
      exact ⟨v3, rfl, J m3 _ _ w3 (f1'.tr f3 (RS_sub rfl))⟩
    · rintro _ m1 ⟨w1, f1, v, rfl, b1, b2⟩
      refine ⟨v, rfl, (cb w1 (by rw [f1.at (a := 187) (k := 10) (by decide)]; exact hG)).to ?_⟩
      rintro _ m3 ⟨w3, f3, v3, rfl⟩
      exact ⟨v3, rfl, w3, ((Fx.rf (S := RS [22, 24, 28, 36, 37, 49])).tr f1 (RS_sub rfl)).tr f3 (RS_sub rfl), _, rfl⟩
theorem hop_ok : ∀ (k : Nat) {d : Nat} {m : Wm} {g n : Nat}, WT m → g + k = n → n ≤ 6 → 1 ≤ (m.1 187 10).toInt → Ct ad μX12_hopeOf (d + 2 * k + 172) [.ref (ad 187), .int (nI g), .int (nI n)] m (cwQ m) := by
  intro k
  induction k with
  | zero =>
    intro d m g n w hk hn hG
    obtain rfl : g = n := by omega
    refine v_X12_hopeOf ⟨fun c => absurd rfl c, fun _ => (s_X12_sumOfAll w).to ?_⟩
    rintro _ m1 ⟨w1, f1, v, rfl⟩
    exact ⟨v, rfl, (w1.n rfl).n rfl, (((Fx.rf (S := RS [22, 24, 28, 36, 37, 49])).tr f1 (RS_sub rfl)).i rfl).i rfl, _, rfl⟩
  | succ k ih =>
    intro d m g n w hk hn hG
    have hgn : nI g ≠ nI n := fun q => by
      have := congrArg Int32.toInt q
      rw [nI_toInt (by omega), nI_toInt (by omega)] at this
      omega
    have cb : ∀ {m : Wm} {x5 : Int32}, WT m → 1 ≤ (m.1 187 10).toInt → Ct ad μX12_hopeBehind (d + 2 * k + 173) [.ref (ad 187), .int (nI g), .int (nI n), .int x5] m (cwQ m) := by
      intro m x5 w hG
      obtain ⟨hG0, r, hr, er, v0, v1, v2, hp⟩ := ix_rem w (g := g) (by omega) hG
      refine v_X12_hopeBehind (d := d + 2 * k + 172) ?_
      rw [er]
      have l57 : (57 : Int32) * nI g = nI (57 * g) := l_mul 57 57 rfl g
      have t57 : (nI (57 * g)).toInt = ((57 * g : Nat) : Int) := nI_toInt (by omega)
      rw [l57, nI_1]
      refine ⟨hG0, (s_X12_lay_211 w (by omega) (by omega)).to ?_⟩
      rintro _ m1 ⟨w1, f1, rfl⟩
      refine ⟨rfl, v0, v1, v2, (s_X12_settle w1 (hp m1 w1).1.1 (hp m1 w1).1.2 (hp m1 w1).2.1 (hp m1 w1).2.2).to ?_⟩
      rintro _ m2 ⟨w2, f2, rfl⟩
      have f2' : Fx (RS [22, 24, 28, 36, 37, 49]) m m2 := ((Fx.rf (S := RS [22, 24, 28, 36, 37, 49])).tr f1 (RS_sub rfl)).tr f2 (RS_sub rfl)
      have h10 : (m2.1 187 10).toInt = (m.1 187 10).toInt := congrArg _ (f2'.at (by decide))
      refine ⟨rfl, (ih w2 (by omega) hn (by omega)).to ?_⟩
      rintro _ m3 ⟨w3, f3, v, rfl⟩
      refine ⟨v, rfl, (s_X12_bring_211 w3 (by omega) (by omega)).to ?_⟩
      rintro _ m4 ⟨w4, f4, rfl⟩
      exact ⟨rfl, w4, (f2'.tr f3 (RS_sub rfl)).tr f4 (RS_sub rfl), v, rfl⟩
    rw [show d + 2 * (k + 1) + 172 = d + 2 * k + 174 by omega]
    refine v_X12_hopeOf (d := d + 2 * k + 173) ⟨fun _ => ?_, fun c => absurd c hgn⟩
    obtain ⟨hG0, r, hr, er, v0, v1, v2, hp⟩ := ix_rem w (g := g) (by omega) hG
    rw [er]
    refine ⟨hG0, v2, fun _ => ⟨v0, v1, (s_X12_chanceOf w (hp m w).1.1 (hp m w).1.2 (hp m w).2.1 (hp m w).2.2).to ?_⟩, fun _ => ⟨v0, v1, (s_X12_winner w (hp m w).1.1 (hp m w).1.2 (hp m w).2.1 (hp m w).2.2).to ?_⟩⟩
    · rintro _ m1 ⟨w1, f1, v, rfl, b1, b2⟩
      have J : ∀ (m2 : Wm) (y9 z0 : Int64), WT m2 → Fx (RS [22, 24, 28, 36, 37, 49]) m m2 → AW ad E0 μX12_hopeOf (d + 2 * k + 174) (cwQ m) 134 [(0, .ref (ad 187)), (1, .int (nI g)), (2, .int (nI n)), (5, .long y9)] [.long z0] m2 := by
        intro m2 y9 z0 w2 f2
        refine g_X12_hopeOf_134 (d := d + 2 * k + 173) ⟨fun _ => ⟨w2, f2, _, rfl⟩, fun _ => (cb w2 (by rw [f2.at (a := 187) (k := 10) (by decide)]; exact hG)).to ?_⟩
        rintro _ m3 ⟨w3, f3, v3, rfl⟩
        exact ⟨v3, rfl, w3, f2.tr f3 (RS_sub rfl), _, rfl⟩
      have f1' : Fx (RS [22, 24, 28, 36, 37, 49]) m m1 := (Fx.rf (S := RS [22, 24, 28, 36, 37, 49])).tr f1 (RS_sub rfl)
      refine ⟨v, rfl, fun _ => J m1 _ _ w1 f1', fun _ => (cb w1 (by rw [f1.at (a := 187) (k := 10) (by decide)]; exact hG)).to ?_⟩
      rintro _ m3 ⟨w3, f3, v3, rfl⟩
      exact ⟨v3, rfl, J m3 _ _ w3 (f1'.tr f3 (RS_sub rfl))⟩
    · rintro _ m1 ⟨w1, f1, v, rfl, b1, b2⟩
      refine ⟨v, rfl, (cb w1 (by rw [f1.at (a := 187) (k := 10) (by decide)]; exact hG)).to ?_⟩
      rintro _ m3 ⟨w3, f3, v3, rfl⟩
      exact ⟨v3, rfl, w3, ((Fx.rf (S := RS [22, 24, 28, 36, 37, 49])).tr f1 (RS_sub rfl)).tr f3 (RS_sub rfl), _, rfl⟩
theorem s_X12_chanceOfWins {d : Nat} {x1 x3 x4 : Int32} (w : WT m) (i1 : 0 ≤ x3.toInt) (i2 : x3.toInt ≤ 6) (i3 : 1 ≤ (m.1 187 10).toInt) : Ct ad μX12_chanceOfWins (d + 190) [.ref (ad 187), .int x1, .int 0, .int x3, .int x4] m (fun r m' => WT m' ∧ Fx (RS [22, 24, 28, 36, 37, 49]) m m' ∧ ∃ v : Int64, r = some (.long v)) := by
  obtain ⟨n, hn, rfl⟩ := zn_of i1
  rw [nI_toInt hn] at i2
  have h := cow_ok (ad := ad) n (d := d + 18 - 2 * n) (x1 := x1) (x4 := x4) (g := 0) (n := n) w (by omega) (by omega) i3
  rw [show d + 18 - 2 * n + 2 * n + 172 = d + 190 by omega] at h
  exact h
theorem s_X12_hopeOf {d : Nat} {x2 : Int32} (w : WT m) (i1 : 0 ≤ x2.toInt) (i2 : x2.toInt ≤ 6) (i3 : 1 ≤ (m.1 187 10).toInt) : Ct ad μX12_hopeOf (d + 190) [.ref (ad 187), .int 0, .int x2] m (fun r m' => WT m' ∧ Fx (RS [22, 24, 28, 36, 37, 49]) m m' ∧ ∃ v : Int64, r = some (.long v)) := by
  obtain ⟨n, hn, rfl⟩ := zn_of i1
  rw [nI_toInt hn] at i2
  have h := hop_ok (ad := ad) n (d := d + 18 - 2 * n) (g := 0) (n := n) w (by omega) (by omega) i3
  rw [show d + 18 - 2 * n + 2 * n + 172 = d + 190 by omega] at h
  exact h
end CW
end
