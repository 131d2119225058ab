/-! GREATEST COMMON MEASURE, A HUNDRED'S POWERS, PARTS (model) -/
section GC
variable {ad : Nat → Nat} {m : Wm}
theorem bm64 {z : Int} (h1 : -9223372036854775808 ≤ z) (h2 : z < 9223372036854775808) : z.bmod (2 ^ 64) = z := by
  have e : ((2 ^ 64 : Nat) : Int) = 18446744073709551616 := rfl
  exact Int.bmod_eq_of_le_mul_two (by rw [e]; omega) (by rw [e]; omega)
theorem rem64_toInt (a b : Int64) (hb : b ≠ 0) : (a - a / b * b).toInt = a.toInt.tmod b.toInt := by
  rw [Int64.toInt_sub, Int64.toInt_mul, Int64.toInt_div, Int.bmod_mul_bmod, Int.sub_bmod_bmod, Int.mul_comm, ← Int.tmod_def]
  have h1 := Int64.le_toInt a
  have h2 := Int64.toInt_lt a
  have hb0 : b.toInt ≠ 0 := fun q => hb (Int64.toInt_inj.mp q)
  have h3 : (a.toInt.tmod b.toInt).natAbs ≤ a.toInt.natAbs := by
    rw [Int.natAbs_tmod]
    exact Nat.mod_le _ _
  have h4 : (a.toInt.tmod b.toInt).natAbs < b.toInt.natAbs := by
    rw [Int.natAbs_tmod]
    exact Nat.mod_lt _ (by omega)
  have h5 := Int64.le_toInt b
  have h6 := Int64.toInt_lt b
  refine bm64 ?_ ?_ <;> omega
theorem half_mod {a b : Nat} (h : 0 < b) (hb : b < a) : 2 * (a % b) < a := by
  have h1 := Nat.mod_lt a h
  have h2 := Nat.div_add_mod a b
  have h3 : 1 ≤ a / b := Nat.div_pos (by omega) h
  have h4 : b * 1 ≤ b * (a / b) := Nat.mul_le_mul_left b h3
  omega
theorem cmp0 {y : Int64} : lg_cmp y 0 = 0 ↔ y = 0 := lg_cmp_eq _ _
theorem common_ok : ∀ (k : Nat) {d : Nat} (y0 y2 : Int64), y2.toInt.natAbs < 2 ^ k → Ct ad μX12_common (d + (2 * k + 1)) [.long y0, .long y2] m (fun r m' => m' = m ∧ ∃ w : Int64, r = some (.long w) ∧ (w = 0 → y0 = 0 ∧ y2 = 0)) := by
  intro k
  induction k with
  | zero =>
    intro d y0 y2 h
    have e : y2 = 0 := Int64.toInt_inj.mp (by have : (0 : Int64).toInt = 0 := rfl; omega)
    refine v_X12_common ⟨fun c => absurd (cmp0.mpr e) c, fun _ => ⟨rfl, _, rfl, fun q => ⟨q, e⟩⟩⟩
  | succ k ih =>
    intro d y0 y2 h
    have z0 : (0 : Int64).toInt = 0 := rfl
    refine v_X12_common (d := d + (2 * k + 2)) ⟨fun c => ?_, fun c => ⟨rfl, _, rfl, fun q => ⟨q, cmp0.mp c⟩⟩⟩
    have hy : y2 ≠ 0 := fun q => c (cmp0.mpr q)
    have hy' : y2.toInt ≠ 0 := fun q => hy (Int64.toInt_inj.mp (q.trans z0.symm))
    refine ⟨hy, ?_⟩
    have e1 := rem64_toInt y0 y2 hy
    generalize hr : y0 - y0 / y2 * y2 = r1 at *
    have n1 : r1.toInt.natAbs < y2.toInt.natAbs := by
      rw [e1, Int.natAbs_tmod]
      exact Nat.mod_lt _ (by omega)
    refine Ct.to (Q := fun r m' => m' = m ∧ ∃ w : Int64, r = some (.long w) ∧ (w = 0 → y2 = 0 ∧ r1 = 0)) ?_ ?_
    · refine v_X12_common (d := d + (2 * k + 1)) ⟨fun c1 => ?_, fun c1 => ⟨rfl, _, rfl, fun q => ⟨q, cmp0.mp c1⟩⟩⟩
      have hr0 : r1 ≠ 0 := fun q => c1 (cmp0.mpr q)
      have hr' : r1.toInt ≠ 0 := fun q => hr0 (Int64.toInt_inj.mp (q.trans z0.symm))
      refine ⟨hr0, ?_⟩
      have e2 := rem64_toInt y2 r1 hr0
      refine (ih _ _ ?_).to ?_
      · rw [e2, Int.natAbs_tmod]
        have := half_mod (a := y2.toInt.natAbs) (b := r1.toInt.natAbs) (by omega) n1
        rw [Nat.pow_succ] at h
        omega
      · rintro _ m' ⟨eq, w, rfl, hw⟩
        obtain rfl := eq.symm
        exact ⟨w, rfl, rfl, w, rfl, fun q => absurd (hw q).1 hr0⟩
    · rintro _ m' ⟨eq, w, rfl, hw⟩
      obtain rfl := eq.symm
      exact ⟨w, rfl, rfl, w, rfl, fun q => absurd (hw q).1 hy⟩
theorem s_X12_tellPart {d : Nat} {y1 y3 : Int64} (w : WT m) (h3 : y3 ≠ 0) (i1 : (m.1 187 16).toInt ≤ 14) : Ct ad μX12_tellPart (d + 140) [.ref (ad 187), .long y1, .long y3] m (fun r m' => WT m' ∧ Fx (RS [26]) m m' ∧ r = none ∧ ((m'.1 187 16).toInt = (m.1 187 16).toInt + 2)) := by
  refine v_X12_tellPart (d := d + 139) ?_
  refine (common_ok (d := d + 8) 65 y1 y3 ?_).to ?_
  · have h1 := Int64.le_toInt y3
    have h2 := Int64.toInt_lt y3
    have : (2 : Nat) ^ 65 = 36893488147419103232 := by decide
    omega
  rintro _ m' ⟨eq, v, rfl, hv⟩
  obtain rfl := eq.symm
  have hv0 : v ≠ 0 := fun q => h3 (hv q).2
  refine ⟨v, rfl, hv0, (s_X12_tell w (by omega)).to ?_⟩
  rintro _ m1 ⟨w1, f1, rfl, p1⟩
  refine ⟨rfl, hv0, (s_X12_tell w1 (by omega)).to ?_⟩
  rintro _ m2 ⟨w2, f2, rfl, p2⟩
  exact ⟨rfl, w2, f1.tr f2 (RS_sub rfl), rfl, by omega⟩
def hp (k : Nat) : Int64 := match k with | 0 => 1 | k + 1 => hp k * 100
theorem hp_ne : ∀ k : Fin 7, hp k.val ≠ 0 := by decide +kernel
theorem power100_ok {d n : Nat} (hn : n ≤ 6) : Ct ad μX12_power100 d [.int (nI n)] m (fun r m' => m' = m ∧ r = some (.long (hp n))) := by
  refine v_X12_power100 ?_
  have := down (N := n) (P := fun k => AW ad E0 μX12_power100 d (fun r m' => m' = m ∧ r = some (.long (hp n))) 4 [(0, .int (nI n)), (1, .long (hp k)), (3, .int (nI k))] [] m) ?_ ?_ (Nat.zero_le n)
  · exact this
  · exact g_X12_power100_4 ⟨fun _ => ⟨rfl, rfl⟩, fun h => absurd ((nI_leI (by omega) (by omega)).mpr (Nat.le_refl _)) h⟩
  · intro k hk ih
    refine g_X12_power100_4 ⟨fun h => absurd ((nI_leI (by omega) (by omega)).mp h) (by omega), fun _ => ?_⟩
    rw [nI_1]
    exact ih
theorem s_X12_power100 {d : Nat} {x0 : Int32} (w : WT m) (i1 : (0 : Int) ≤ x0.toInt) (i2 : x0.toInt ≤ (6 : Int)) : Ct ad μX12_power100 d [.int x0] m (fun r m' => WT m' ∧ Fx (RS []) m m' ∧ ∃ v : Int64, r = some (.long v) ∧ v ≠ 0) := by
  obtain ⟨s, hs, rfl⟩ := zn_of i1
  rw [nI_toInt hs] at i2
  refine (power100_ok (by omega)).to ?_
  rintro _ m' ⟨eq, rfl⟩
  obtain rfl := eq.symm
  exact ⟨w, Fx.rf, _, rfl, hp_ne ⟨s, by omega⟩⟩
end GC
