/-! A TABLE OF PLACES: each state in the first place from its own on that was free -/
def TB (T : Nat → Int32) (N : Nat) (A B : Nat → Int64) (H : Int64 → Int64 → Nat) : Prop :=
  N ≤ 3000 ∧ czf T 8192 ≤ N ∧ (∀ i, i < N → ∃ p, p < 8192 ∧ T ((H (A i) (B i) + p) % 8192) = nI (i + 1) ∧ ∀ q, q < p → T ((H (A i) (B i) + q) % 8192) ≠ 0) ∧
  (∀ s, s < 8192 → T s = 0 ∨ ∃ i, i < N ∧ T s = nI (i + 1)) ∧ ∀ i j, i < N → j < N → A i = A j → B i = B j → i = j
section TBL
variable {T T' : Nat → Int32} {N : Nat} {A B A' B' : Nat → Int64} {H : Int64 → Int64 → Nat} {a b : Int64}
theorem nI_s0 {i : Nat} (hi : i < 3000) : nI (i + 1) ≠ 0 := fun q => by
  have := (nI_eq (a := i + 1) (b := 0) (by omega) (by decide)).mp q
  omega
theorem nI_si {i j : Nat} (hi : i < 3000) (hj : j < 3000) (h : nI (i + 1) = nI (j + 1)) : i = j := by
  have := (nI_eq (a := i + 1) (b := j + 1) (by omega) (by omega)).mp h
  omega
theorem TB.zero (t : TB T N A B H) (h : Nat) : ∃ p, p < 8192 ∧ T ((h + p) % 8192) = 0 := by
  obtain ⟨t1, t2, -⟩ := t
  obtain ⟨z, hz, e⟩ := czf_ex 8192 (f := T) (by omega)
  refine ⟨(z + 8192 - h % 8192) % 8192, Nat.mod_lt _ (by decide), ?_⟩
  rw [show (h + (z + 8192 - h % 8192) % 8192) % 8192 = z by omega]
  exact e
theorem TB.miss (t : TB T N A B H) {p : Nat} (hz : T ((H a b + p) % 8192) = 0) (hv : ∀ q, q < p → ∀ i, i < N → T ((H a b + q) % 8192) = nI (i + 1) → ¬ (A i = a ∧ B i = b)) : ∀ i, i < N → ¬ (A i = a ∧ B i = b) := by
  intro i hi hk
  obtain ⟨t1, -, t3, -⟩ := t
  obtain ⟨p', hp', h1, h2⟩ := t3 i hi
  rw [hk.1, hk.2] at h1 h2
  rcases Nat.lt_trichotomy p' p with c | c | c
  · exact hv p' c i hi h1 hk
  · subst c
    rw [hz] at h1
    exact nI_s0 (by omega) h1.symm
  · exact h2 p c hz
theorem TB.add (t : TB T N A B H) (hN : N < 3000) {p : Nat} (hp : p < 8192) (hz : T ((H a b + p) % 8192) = 0) (hv : ∀ q, q < p → T ((H a b + q) % 8192) ≠ 0) (hn : ∀ i, i < N → ¬ (A i = a ∧ B i = b))
    (e1 : T' ((H a b + p) % 8192) = nI (N + 1)) (e2 : ∀ k, k ≠ (H a b + p) % 8192 → T' k = T k) (a1 : A' N = a) (a2 : ∀ k, k < N → A' k = A k) (b1 : B' N = b) (b2 : ∀ k, k < N → B' k = B k) : TB T' (N + 1) A' B' H := by
  obtain ⟨t1, t2, t3, t4, t5⟩ := t
  have nz : ∀ k, T k ≠ 0 → T' k = T k := fun k hk => e2 k (fun q => hk (by rw [q]; exact hz))
  have nz' : ∀ k, T k ≠ 0 → T' k ≠ 0 := fun k hk => by rw [nz k hk]; exact hk
  refine ⟨by omega, ?_, fun i hi => ?_, fun s hs => ?_, fun i j hi hj h1 h2 => ?_⟩
  · have := (czf_upd (f := T) (g := T') e2 8192).1 (Nat.mod_lt _ (by decide))
    omega
  · by_cases c : i = N
    · subst c
      rw [a1, b1]
      exact ⟨p, hp, e1, fun q hq => nz' _ (hv q hq)⟩
    · obtain ⟨p', hp', h1, h2⟩ := t3 i (by omega)
      rw [a2 i (by omega), b2 i (by omega)]
      exact ⟨p', hp', (nz _ (by rw [h1]; exact nI_s0 (by omega))).trans h1, fun q hq => nz' _ (h2 q hq)⟩
  · by_cases c : s = (H a b + p) % 8192
    · subst c
      exact Or.inr ⟨N, by omega, e1⟩
    · rw [e2 s c]
      rcases t4 s hs with h | ⟨i, hi, h⟩
      · exact Or.inl h
      · exact Or.inr ⟨i, by omega, h⟩
  · by_cases ci : i = N
    · by_cases cj : j = N
      · rw [ci, cj]
      · subst ci
        rw [a1, a2 j (by omega)] at h1
        rw [b1, b2 j (by omega)] at h2
        exact absurd ⟨h1.symm, h2.symm⟩ (hn j (by omega))
    · by_cases cj : j = N
      · subst cj
        rw [a1, a2 i (by omega)] at h1
        rw [b1, b2 i (by omega)] at h2
        exact absurd ⟨h1, h2⟩ (hn i (by omega))
      · rw [a2 i (by omega), a2 j (by omega)] at h1
        rw [b2 i (by omega), b2 j (by omega)] at h2
        exact t5 i j (by omega) (by omega) h1 h2
theorem TB.nil (h : ∀ s, s < 8192 → T s = 0) : TB T 0 A B H := ⟨by decide, by rw [czf_zero 8192 h]; decide, fun i hi => absurd hi (Nat.not_lt_zero i), fun s hs => Or.inl (h s hs), fun i j hi => absurd hi (Nat.not_lt_zero i)⟩
end TBL
def hsC (a b : Int64) : Nat := (((((a * (-7046029254386353131 : Int64)) ^^^ (b * (-4417276706812531889 : Int64))).toUInt64 >>> ((40 : Int32).toInt64.toUInt64 &&& Int64.toUInt64 63)).toInt64).toInt32 &&& (8191 : Int32)).toNatClampNeg
def hsM (a b : Int64) : Nat := ((((a * (-7046029254386353131 : Int64)) ^^^ (b * (-4417276706812531889 : Int64))).toUInt64 >>> ((51 : Int32).toInt64.toUInt64 &&& Int64.toUInt64 63)).toInt64).toInt32.toNatClampNeg
theorem hsC_in (a b : Int64) : hsC a b < 8192 ∧ (((((a * (-7046029254386353131 : Int64)) ^^^ (b * (-4417276706812531889 : Int64))).toUInt64 >>> ((40 : Int32).toInt64.toUInt64 &&& Int64.toUInt64 63)).toInt64).toInt32 &&& (8191 : Int32)) = nI (hsC a b) := by
  unfold hsC
  generalize ((((a * (-7046029254386353131 : Int64)) ^^^ (b * (-4417276706812531889 : Int64))).toUInt64 >>> ((40 : Int32).toInt64.toUInt64 &&& Int64.toUInt64 63)).toInt64).toInt32 = x
  have h := t_and8191 x
  generalize x &&& (8191 : Int32) = y at h ⊢
  obtain ⟨j, hj, rfl⟩ := zn_of h.1
  rw [nI_toInt hj] at h
  rw [nI_clamp hj]
  exact ⟨by omega, rfl⟩
theorem hsM_in (a b : Int64) : hsM a b < 8192 ∧ ((((a * (-7046029254386353131 : Int64)) ^^^ (b * (-4417276706812531889 : Int64))).toUInt64 >>> ((51 : Int32).toInt64.toUInt64 &&& Int64.toUInt64 63)).toInt64).toInt32 = nI (hsM a b) := by
  unfold hsM
  obtain ⟨v, hv, e⟩ := hash_in ((a * (-7046029254386353131 : Int64)) ^^^ (b * (-4417276706812531889 : Int64))).toUInt64
  rw [e, nI_clamp (by omega)]
  exact ⟨hv, rfl⟩
def TBC (m : Wm) (N : Nat) : Prop := SWc m N ∧ TB (m.1 154) N (m.2.1 152) (m.2.1 153) hsC
def TBM (m : Wm) (N : Nat) : Prop := m.1 187 43 = nI N ∧ TB (m.1 210) N (m.2.1 205) (m.2.1 206) hsM
section TBX
variable {ad : Nat → Nat} {d N : Nat} {m m' : Wm} {S : List Nat} {a b : Int64}
theorem TBC.fx (h : TBC m N) (f : Fx (RS S) m m') (e : S.elem 10 = false) : TBC m' N := by
  refine ⟨h.1.fx f e, ?_⟩
  rw [(fx_cl (a := 154) (ρ := 10) f (fun _ => rfl) e).1, (fx_cl (a := 152) (ρ := 10) f (fun _ => rfl) e).2, (fx_cl (a := 153) (ρ := 10) f (fun _ => rfl) e).2]
  exact h.2
theorem TBM.fx (h : TBM m N) (f : Fx (RS S) m m') (e : S.elem 35 = false) : TBM m' N := by
  refine ⟨(f.at (a := 187) (k := 43) (nRS (ρ := 35) e rfl)).trans h.1, ?_⟩
  rw [(fx_cl (a := 210) (ρ := 35) f (fun _ => rfl) e).1, (fx_cl (a := 205) (ρ := 35) f (fun _ => rfl) e).2, (fx_cl (a := 206) (ρ := 35) f (fun _ => rfl) e).2]
  exact h.2
/-! the class: all places emptied; a state looked up or put -/
theorem clearC (w : WT m) (h : SWc m N) : Ct ad μX9_clear d [.ref (ad 151)] m (fun r m' => r = none ∧ WT m' ∧ Fx (RS [10]) m m' ∧ TBC m' 0) := by
  obtain ⟨h1, h2, h3⟩ := h
  have L : ∀ (n j : Nat) (m1 : Wm), j + n = N → WT m1 → Fx (RS [10]) m m1 → m1.1 151 4 = nI N → (∀ s, s < 8192 → m1.1 154 s ≠ 0 → ∃ i, j ≤ i ∧ i < N ∧ m1.1 155 i = nI s) → AW ad E0 μX9_clear d (fun r m' => r = none ∧ WT m' ∧ Fx (RS [10]) m m' ∧ TBC m' 0) 2 [(0, .ref (ad 151)), (1, .int (nI j))] [] m1 := by
    intro n
    induction n with
    | zero =>
      intro j m1 hj w1 f1 e1 hz
      obtain rfl : j = N := hj
      have z : ∀ s, s < 8192 → m1.1 154 s = 0 := fun s hs => by
        by_cases c : m1.1 154 s = 0
        · exact c
        · obtain ⟨i, i1, i2, -⟩ := hz s hs c
          omega
      refine g_X9_clear_2 ⟨fun _ => ⟨rfl, w1.t rfl (by decide) (by decide), f1.i rfl, ⟨by decide, rfl, fun s hs c => absurd (z s hs) c⟩, TB.nil (fun s hs => z s hs)⟩, fun c => absurd (by rw [e1]; exact (nI_leI (by omega) (by omega)).mpr (Nat.le_refl _)) c⟩
    | succ n ih =>
      intro j m1 hj w1 f1 e1 hz
      obtain ⟨s0, es, -, -, hs0, -⟩ := w1.nat (a := 155) (k := j) rfl (by decide)
      refine g_X9_clear_2 ⟨fun c => absurd (by rw [e1] at c; exact (nI_leI (by omega) (by omega)).mp c) (by omega), fun _ => ?_⟩
      rw [nI_clamp (by omega), es, nI_clamp (by omega), nI_1]
      refine ⟨nat_in (by omega) (by decide), nat_in (by omega) (by decide), ih (j + 1) _ (by omega) (w1.t rfl (by decide) (by decide)) (f1.i rfl) e1 (fun s hs c => ?_)⟩
      have hne : s ≠ s0 := fun q => c (by rw [q]; exact u_eq)
      have c' : m1.1 154 s ≠ 0 := fun q => c ((u_ne (fun z => hne z.2)).trans q)
      obtain ⟨i, i1, i2, i3⟩ := hz s hs c'
      refine ⟨i, ?_, i2, i3⟩
      by_cases q : i = j
      · subst q
        rw [es] at i3
        exact absurd ((nI_eq (by omega) (by omega)).mp i3).symm hne
      · omega
  exact v_X9_clear (L N 0 m (by omega) w Fx.rf h2 (fun s hs c => by obtain ⟨i, i1, i2⟩ := h3 s hs c; exact ⟨i, Nat.zero_le _, i1, i2⟩))
/-- looked up: there it is; or it came behind the others; or there is no room -/
def PtQ (m : Wm) (N : Nat) (a b : Int64) (r : Option Value) (m' : Wm) : Prop := WT m' ∧ Fx (RS [10]) m m' ∧ (∀ k, k < N → m'.2.1 152 k = m.2.1 152 k ∧ m'.2.1 153 k = m.2.1 153 k) ∧
  ((∃ i, i < N ∧ m.2.1 152 i = a ∧ m.2.1 153 i = b ∧ r = some (.int (nI i)) ∧ TBC m' N ∧ m'.1 151 5 = 0) ∨
   ((∀ i, i < N → ¬ (m.2.1 152 i = a ∧ m.2.1 153 i = b)) ∧ N = 3000 ∧ r = some (.int (-1)) ∧ TBC m' N) ∨
   ((∀ i, i < N → ¬ (m.2.1 152 i = a ∧ m.2.1 153 i = b)) ∧ N < 3000 ∧ r = some (.int (nI N)) ∧ TBC m' (N + 1) ∧ m'.1 151 5 = 1 ∧ m'.2.1 152 N = a ∧ m'.2.1 153 N = b))
theorem px_l {m : Wm} {a k : Nat} {x : Int64} : (uL m a k x).1 = m.1 := rfl
theorem px_155 {m : Wm} {k : Nat} {x : Int32} : (uI m 155 k x).1 151 4 = m.1 151 4 := u_ne (by omega)
theorem px_154 {m : Wm} {k : Nat} {x : Int32} : (uI m 154 k x).1 151 4 = m.1 151 4 := u_ne (by omega)
theorem px_5 {m : Wm} {x : Int32} : (uI m 151 5 x).1 151 4 = m.1 151 4 := u_ne (by omega)
theorem px_4 {m : Wm} {x : Int32} : (uI m 151 4 x).1 151 4 = x := u_eq
set_option maxHeartbeats 1000000 in
theorem putX (w : WT m) (t : TBC m N) : Ct ad μX9_put d [.ref (ad 151), .long a, .long b] m (PtQ m N a b) := by
  have w0 : WT (uI m 151 5 0) := w.n rfl
  have f0 : Fx (RS [10]) m (uI m 151 5 0) := Fx.rf.i rfl
  have t0 : TBC (uI m 151 5 0) N := t
  obtain ⟨hh, eh⟩ := hsC_in a b
  have hN := t.2.1
  obtain ⟨p0, hp0, ez⟩ := t.2.zero (hsC a b)
  have e43 : (uI m 151 5 0).1 151 4 = nI N := t.1.2.1
  have E101 : ∀ p, p < 8192 → m.1 154 ((hsC a b + p) % 8192) = 0 → (∀ q, q < p → m.1 154 ((hsC a b + q) % 8192) ≠ 0 ∧ ∀ i, i < N → m.1 154 ((hsC a b + q) % 8192) = nI (i + 1) → ¬ (m.2.1 152 i = a ∧ m.2.1 153 i = b)) → AW ad E0 μX9_put d (PtQ m N a b) 101 [(0, .ref (ad 151)), (1, .long a), (3, .long b), (5, .int (nI ((hsC a b + p) % 8192)))] [] (uI m 151 5 0) := by
    intro p hp hz hv
    have miss := t.2.miss (p := p) hz (fun q hq => (hv q hq).2)
    generalize hs0 : (hsC a b + p) % 8192 = s0 at hz
    have hs0' : s0 < 8192 := by rw [← hs0]; exact Nat.mod_lt _ (by decide)
    refine g_X9_put_101 ⟨fun c => ?_, fun c => ?_⟩
    · rw [e43] at c
      have hN3 := (l_lt 3000 3000 rfl (by decide) (by omega)).mp c
      have V : vp_in ((uI m 151 5 0).1 151 4) 3000 := by rw [e43]; exact nat_in hN3 (by decide)
      have fin : ∀ (k : Nat) (y : Int32) (s : Nat), k = N → y = nI N → s = s0 → PtQ m N a b (some (.int ((y + 1) - 1))) (uI (uI (uI (uI (uL (uL (uI m 151 5 0) 152 k a) 153 k b) 155 k (nI s0)) 151 4 (y + 1)) 154 s (y + 1)) 151 5 1) := by
        intro k y s hk hy hs
        subst hk hy hs
        have eS : nI k + 1 - 1 = nI k := by rw [nI_1]; exact nI_sb (a := k + 1) (b := 1) (by omega) (by omega)
        have tk : (nI (k + 1)).toInt = (k : Int) + 1 := by rw [nI_toInt (by omega)]; omega
        have ts : (nI s).toInt = (s : Int) := nI_toInt (by omega)
        rw [eS, nI_1]
        have F : Fx (RS [10]) m (uI (uI (uI (uI (uL (uL (uI m 151 5 0) 152 k a) 153 k b) 155 k (nI s)) 151 4 (nI (k + 1))) 154 s (nI (k + 1))) 151 5 1) := (((((f0.l rfl).l rfl).i rfl).i rfl).i rfl).i rfl
        have W : WT (uI (uI (uI (uI (uL (uL (uI m 151 5 0) 152 k a) 153 k b) 155 k (nI s)) 151 4 (nI (k + 1))) 154 s (nI (k + 1))) 151 5 1) := (((w0.l.l.t (a := 155) rfl (by omega) (by omega)).t (a := 151) rfl (by omega) (by omega)).t (a := 154) rfl (by omega) (by omega)).n rfl
        have cA : ∀ j, (uI (uI (uI (uI (uL (uL (uI m 151 5 0) 152 k a) 153 k b) 155 k (nI s)) 151 4 (nI (k + 1))) 154 s (nI (k + 1))) 151 5 1).2.1 152 j = if j = k then a else m.2.1 152 j := fun j => by
          show (if 152 = 153 ∧ j = k then b else if 152 = 152 ∧ j = k then a else m.2.1 152 j) = _
          rw [if_neg (fun z => absurd z.1 (by decide))]
          by_cases c : j = k
          · rw [if_pos ⟨rfl, c⟩, if_pos c]
          · rw [if_neg (fun z => c z.2), if_neg c]
        have cB : ∀ j, (uI (uI (uI (uI (uL (uL (uI m 151 5 0) 152 k a) 153 k b) 155 k (nI s)) 151 4 (nI (k + 1))) 154 s (nI (k + 1))) 151 5 1).2.1 153 j = if j = k then b else m.2.1 153 j := fun j => by
          show (if 153 = 153 ∧ j = k then b else if 153 = 152 ∧ j = k then a else m.2.1 153 j) = _
          by_cases c : j = k
          · rw [if_pos ⟨rfl, c⟩, if_pos c]
          · rw [if_neg (fun z => c z.2), if_neg (fun z => c z.2), if_neg c]
        have cT : ∀ j, (uI (uI (uI (uI (uL (uL (uI m 151 5 0) 152 k a) 153 k b) 155 k (nI s)) 151 4 (nI (k + 1))) 154 s (nI (k + 1))) 151 5 1).1 154 j = if j = s then nI (k + 1) else m.1 154 j := fun j => by
          refine (u_ne (by omega)).trans ?_
          by_cases c : j = s
          · subst c
            rw [if_pos rfl]
            exact u_eq
          · rw [if_neg c]
            exact (u_ne (fun z => c z.2)).trans ((u_ne (by omega)).trans (u_ne (by omega)))
        have cP : ∀ j, (uI (uI (uI (uI (uL (uL (uI m 151 5 0) 152 k a) 153 k b) 155 k (nI s)) 151 4 (nI (k + 1))) 154 s (nI (k + 1))) 151 5 1).1 155 j = if j = k then nI s else m.1 155 j := fun j => by
          refine (u_ne (by omega)).trans ((u_ne (by omega)).trans ((u_ne (by omega)).trans ?_))
          by_cases c : j = k
          · subst c
            rw [if_pos rfl]
            exact u_eq
          · rw [if_neg c]
            exact u_ne (fun z => c z.2)
        refine ⟨W, F, fun j hj => ⟨by rw [cA, if_neg (by omega)], by rw [cB, if_neg (by omega)]⟩, Or.inr (Or.inr ⟨miss, hN3, rfl, ⟨⟨by omega, (u_ne (by omega)).trans ((u_ne (by omega)).trans u_eq), fun j hj c => ?_⟩, ?_⟩, u_eq, by rw [cA, if_pos rfl], by rw [cB, if_pos rfl]⟩)⟩
        · rw [cT] at c
          by_cases q : j = s
          · exact ⟨k, by omega, by rw [cP, if_pos rfl, q]⟩
          · rw [if_neg q] at c
            obtain ⟨i, i1, i2⟩ := t.1.2.2 j hj c
            exact ⟨i, by omega, by rw [cP, if_neg (by omega)]; exact i2⟩
        · refine t.2.add (p := p) hN3 hp (by rw [hs0]; exact hz) (fun q hq => (hv q hq).1) miss ?_ (fun j hj => ?_) (by rw [cA, if_pos rfl]) (fun j hj => by rw [cA, if_neg (by omega)]) (by rw [cB, if_pos rfl]) (fun j hj => by rw [cB, if_neg (by omega)])
          · rw [hs0, cT, if_pos rfl]
          · rw [hs0] at hj
            rw [cT, if_neg hj]
      refine ⟨V, V, V, nat_in hs0' (by decide), ?_⟩
      simp only [px_l, px_155, px_154, px_5, px_4]
      have e43' : m.1 151 4 = nI N := t.1.2.1
      rw [e43', nI_clamp (n := N) (by omega), nI_clamp (n := s0) (by omega)]
      exact fin N (nI N) s0 rfl rfl rfl
    · rw [e43] at c
      have hN3 : N = 3000 := by
        have : ¬ N < 3000 := fun z => c ((l_lt 3000 3000 rfl (by decide) (by omega)).mpr z)
        omega
      exact ⟨w0, f0, fun _ _ => ⟨rfl, rfl⟩, Or.inr (Or.inl ⟨miss, hN3, rfl, t0⟩)⟩
  have L : ∀ n p : Nat, p + n = p0 → (∀ q, q < p → m.1 154 ((hsC a b + q) % 8192) ≠ 0 ∧ ∀ i, i < N → m.1 154 ((hsC a b + q) % 8192) = nI (i + 1) → ¬ (m.2.1 152 i = a ∧ m.2.1 153 i = b)) → AW ad E0 μX9_put d (PtQ m N a b) 29 [(0, .ref (ad 151)), (1, .long a), (3, .long b), (5, .int (nI ((hsC a b + p) % 8192))), (6, .int (nI p))] [] (uI m 151 5 0) := by
    intro n
    induction n with
    | zero =>
      intro p hp hv
      obtain rfl : p = p0 := hp
      have hs : (hsC a b + p) % 8192 < 8192 := Nat.mod_lt _ (by decide)
      refine g_X9_put_29 ⟨fun c => absurd ((le_l 8192 8192 rfl (by decide) (by omega)).mp c) (by omega), fun _ => ⟨nat_in hs (by decide), fun _ => E101 p hp0 ez hv, fun c => absurd ?_ c⟩⟩
      rw [nI_clamp (by omega)]
      exact ez
    | succ n ih =>
      intro p hp hv
      have hs : (hsC a b + p) % 8192 < 8192 := Nat.mod_lt _ (by decide)
      refine g_X9_put_29 ⟨fun c => absurd ((le_l 8192 8192 rfl (by decide) (by omega)).mp c) (by omega), fun _ => ⟨nat_in hs (by decide), fun c => ?_, fun c => ?_⟩⟩
      · rw [nI_clamp (by omega)] at c
        exact E101 p (by omega) c hv
      · rw [nI_clamp (by omega)] at c ⊢
        have c' : m.1 154 ((hsC a b + p) % 8192) ≠ 0 := c
        rcases t.2.2.2.2.1 _ hs with q | ⟨i, hi, ei⟩
        · exact absurd q c'
        have ei' : (uI m 151 5 0).1 154 ((hsC a b + p) % 8192) = nI (i + 1) := ei
        have eS : nI (i + 1) - 1 = nI i := nI_sb (a := i + 1) (b := 1) (by omega) (by omega)
        have V := nat_in hs (by decide)
        have Vi : vp_in (nI i) 3000 := nat_in (by omega) (by decide)
        have nxt : ¬ (m.2.1 152 i = a ∧ m.2.1 153 i = b) → AW ad E0 μX9_put d (PtQ m N a b) 85 [(0, .ref (ad 151)), (1, .long a), (3, .long b), (5, .int (nI ((hsC a b + p) % 8192))), (6, .int (nI p))] [] (uI m 151 5 0) := fun hne => by
          refine g_X9_put_85 ?_
          rw [and8191 hs, nI_1, show ((hsC a b + p) % 8192 + 1) % 8192 = (hsC a b + (p + 1)) % 8192 by omega]
          refine ih (p + 1) (by omega) (fun q hq => ?_)
          by_cases z : q = p
          · subst z
            refine ⟨c', fun j hj ej => ?_⟩
            rw [ei] at ej
            have := nI_si (by omega) (by omega) ej
            subst this
            exact hne
          · exact hv q (by omega)
        rw [ei', eS, nI_clamp (by omega)]
        refine ⟨V, Vi, fun q => nxt (fun z => q ((lg_cmp_eq _ _).mpr z.1)), fun q => ⟨Vi, fun q2 => nxt (fun z => q2 ((lg_cmp_eq _ _).mpr z.2)), fun q2 => ?_⟩⟩
        exact ⟨w0, f0, fun _ _ => ⟨rfl, rfl⟩, Or.inl ⟨i, hi, (lg_cmp_eq _ _).mp q, (lg_cmp_eq _ _).mp q2, rfl, t0, u_eq⟩⟩
  refine v_X9_put ?_
  rw [eh]
  have := L p0 0 (by omega) (fun q hq => absurd hq (Nat.not_lt_zero q))
  rw [show (hsC a b + 0) % 8192 = hsC a b by omega] at this
  exact this
/-! the model -/
theorem slotX (t : TBM m N) : Ct ad μX12_slot d [.ref (ad 187), .long a, .long b] m (fun r m' => m' = m ∧ ∃ v, v < 8192 ∧ r = some (.int (nI v)) ∧
    ((∃ i, i < N ∧ m.1 210 v = nI (i + 1) ∧ m.2.1 205 i = a ∧ m.2.1 206 i = b) ∨ (m.1 210 v = 0 ∧ (∀ i, i < N → ¬ (m.2.1 205 i = a ∧ m.2.1 206 i = b)) ∧ ∃ p, p < 8192 ∧ v = (hsM a b + p) % 8192 ∧ ∀ q, q < p → m.1 210 ((hsM a b + q) % 8192) ≠ 0))) := by
  obtain ⟨hh, eh⟩ := hsM_in a b
  have hN := t.2.1
  obtain ⟨p0, hp0, ez⟩ := t.2.zero (hsM a b)
  have L : ∀ n p : Nat, p + n = p0 → (∀ q, q < p → m.1 210 ((hsM a b + q) % 8192) ≠ 0 ∧ ∀ i, i < N → m.1 210 ((hsM a b + q) % 8192) = nI (i + 1) → ¬ (m.2.1 205 i = a ∧ m.2.1 206 i = b)) → AW ad E0 μX12_slot d (fun r m' => m' = m ∧ ∃ v, v < 8192 ∧ r = some (.int (nI v)) ∧ ((∃ i, i < N ∧ m.1 210 v = nI (i + 1) ∧ m.2.1 205 i = a ∧ m.2.1 206 i = b) ∨ (m.1 210 v = 0 ∧ (∀ i, i < N → ¬ (m.2.1 205 i = a ∧ m.2.1 206 i = b)) ∧ ∃ p, p < 8192 ∧ v = (hsM a b + p) % 8192 ∧ ∀ q, q < p → m.1 210 ((hsM a b + q) % 8192) ≠ 0))) 21 [(0, .ref (ad 187)), (1, .long a), (3, .long b), (7, .int (nI ((hsM a b + p) % 8192)))] [] m := by
    intro n
    induction n with
    | zero =>
      intro p hp hv
      obtain rfl : p = p0 := hp
      have hs : (hsM a b + p) % 8192 < 8192 := Nat.mod_lt _ (by decide)
      refine g_X12_slot_21 ⟨nat_in hs (by decide), fun _ => ⟨rfl, _, hs, rfl, Or.inr ⟨ez, t.2.miss (p := p) ez (fun q hq => (hv q hq).2), p, hp0, rfl, fun q hq => (hv q hq).1⟩⟩, fun c => absurd ?_ c⟩
      rw [nI_clamp (by omega)]
      exact ez
    | succ n ih =>
      intro p hp hv
      have hs : (hsM a b + p) % 8192 < 8192 := Nat.mod_lt _ (by decide)
      have V := nat_in hs (by decide)
      refine g_X12_slot_21 ⟨V, fun c => ?_, fun c => ?_⟩
      · rw [nI_clamp (by omega)] at c
        exact ⟨rfl, _, hs, rfl, Or.inr ⟨c, t.2.miss (p := p) c (fun q hq => (hv q hq).2), p, by omega, rfl, fun q hq => (hv q hq).1⟩⟩
      · rw [nI_clamp (by omega)] at c ⊢
        rcases t.2.2.2.2.1 _ hs with q | ⟨i, hi, ei⟩
        · exact absurd q c
        have eS : nI (i + 1) - 1 = nI i := nI_sb (a := i + 1) (b := 1) (by omega) (by omega)
        have Vi : vp_in (nI i) 3000 := nat_in (by omega) (by decide)
        have nxt : ¬ (m.2.1 205 i = a ∧ m.2.1 206 i = b) → AW ad E0 μX12_slot d (fun r m' => m' = m ∧ ∃ v, v < 8192 ∧ r = some (.int (nI v)) ∧ ((∃ i, i < N ∧ m.1 210 v = nI (i + 1) ∧ m.2.1 205 i = a ∧ m.2.1 206 i = b) ∨ (m.1 210 v = 0 ∧ (∀ i, i < N → ¬ (m.2.1 205 i = a ∧ m.2.1 206 i = b)) ∧ ∃ p, p < 8192 ∧ v = (hsM a b + p) % 8192 ∧ ∀ q, q < p → m.1 210 ((hsM a b + q) % 8192) ≠ 0))) 69 [(0, .ref (ad 187)), (1, .long a), (3, .long b), (7, .int (nI ((hsM a b + p) % 8192)))] [] m := fun hne => by
          refine g_X12_slot_69 ?_
          rw [and8191 hs, show ((hsM a b + p) % 8192 + 1) % 8192 = (hsM a b + (p + 1)) % 8192 by omega]
          refine ih (p + 1) (by omega) (fun q hq => ?_)
          by_cases z : q = p
          · subst z
            refine ⟨c, fun j hj ej => ?_⟩
            rw [ei] at ej
            have := nI_si (by omega) (by omega) ej
            subst this
            exact hne
          · exact hv q (by omega)
        rw [ei, eS, nI_clamp (by omega)]
        exact ⟨V, Vi, fun q => nxt (fun z => q ((lg_cmp_eq _ _).mpr z.1)), fun q => ⟨V, Vi, fun q2 => ⟨rfl, _, hs, rfl, Or.inl ⟨i, hi, ei, (lg_cmp_eq _ _).mp q, (lg_cmp_eq _ _).mp q2⟩⟩, fun q2 => nxt (fun z => q2 ((lg_cmp_eq _ _).mpr z.2))⟩⟩
  refine v_X12_slot ?_
  rw [eh]
  have := L p0 0 (by omega) (fun q hq => absurd hq (Nat.not_lt_zero q))
  rw [show (hsM a b + 0) % 8192 = hsM a b by omega] at this
  exact this
def SnQ (m : Wm) (N : Nat) (a b : Int64) (x1 : Int32) (r : Option Value) (m' : Wm) : Prop := WT m' ∧ Fx (RS [35]) m m' ∧ ST m' ∧ (∀ k, k < N → m'.2.1 205 k = m.2.1 205 k ∧ m'.2.1 206 k = m.2.1 206 k ∧ m'.1 207 k = m.1 207 k) ∧
  ((∃ i, i < N ∧ m.2.1 205 i = a ∧ m.2.1 206 i = b ∧ r = some (.int (nI i)) ∧ TBM m' N) ∨
   ((∀ i, i < N → ¬ (m.2.1 205 i = a ∧ m.2.1 206 i = b)) ∧ N = 3000 ∧ r = some (.int (-1)) ∧ TBM m' N) ∨
   ((∀ i, i < N → ¬ (m.2.1 205 i = a ∧ m.2.1 206 i = b)) ∧ N < 3000 ∧ r = some (.int (nI N)) ∧ TBM m' (N + 1) ∧ m'.2.1 205 N = a ∧ m'.2.1 206 N = b ∧ (x1 = -1 → m'.1 207 N = 0) ∧ ∀ p, p < N → x1 = nI p → m'.1 207 N = m.1 207 p + 1))
set_option maxHeartbeats 1000000 in
theorem stateNowX {f : Nat → Int32} {x1 x2 : Int32} (w : WT m) (s : ST m) (t : TBM m N) (hf : ∀ k, k < 32 → m.1 188 k = f k) (h7 : SR7 f) (i1 : x1 = -1 ∨ ∃ p, p < N ∧ x1 = nI p) : Ct ad μX12_stateNow (d + 1) [.ref (ad 187), .int x1, .int x2, .int 3000] m (SnQ m N (lN (mkN f 0 16)) (lN (mkN f 16 16)) x1) := by
  have zn1 : (-1 : Int32).toInt = -1 := rfl
  have z0 : (0 : Int32).toInt = 0 := rfl
  have hN := t.2.1
  have en := t.1
  have hA := halfM (ad := ad) (d := d) hf h7 (o := 0) (by decide)
  have hB := halfM (ad := ad) (d := d) hf h7 (o := 16) (by decide)
  refine v_X12_stateNow (hA.to ?_)
  rintro _ m1 ⟨eq, rfl⟩
  obtain rfl := eq.symm
  refine ⟨_, rfl, hB.to ?_⟩
  rintro _ m1 ⟨eq, rfl⟩
  obtain rfl := eq.symm
  generalize lN (mkN f 0 16) = a
  generalize lN (mkN f 16 16) = b
  refine ⟨_, rfl, (slotX (a := a) (b := b) t).to ?_⟩
  rintro _ m1 ⟨eq, v, hv, rfl, hr⟩
  obtain rfl := eq.symm
  refine ⟨_, rfl, nat_in hv (by decide), fun hz => ?_, fun hz => ?_⟩
  · rw [nI_clamp (by omega)] at hz
    obtain ⟨miss, p, hp, ep, hch⟩ : (∀ i, i < N → ¬ (m.2.1 205 i = a ∧ m.2.1 206 i = b)) ∧ ∃ p, p < 8192 ∧ v = (hsM a b + p) % 8192 ∧ ∀ q, q < p → m.1 210 ((hsM a b + q) % 8192) ≠ 0 := by
      rcases hr with ⟨i, hi, ei, -⟩ | ⟨-, h2⟩
      · rw [hz] at ei
        exact absurd ei.symm (nI_s0 (by omega))
      · exact h2
    refine ⟨fun h3 => ?_, fun h3 => ?_⟩
    · have hN3 : N < 3000 := by
        have : N ≠ 3000 := fun q => h3 (by rw [en, q]; rfl)
        omega
      have V : vp_in (m.1 187 43) 3000 := by rw [en]; exact nat_in hN3 (by decide)
      have cn : (m.1 187 43).toNatClampNeg = N := by rw [en, nI_clamp (by omega)]
      have fin : ∀ (Q : Option Value → Wm → Prop) (D : Int32) (k : Nat) (y : Int32), k = N → y = nI N → Q (some (.int (nI N))) (snM m N v a b x1 x2 D) → AW ad E0 μX12_stateNow (d + 1) Q 122 [(0, .ref (ad 187)), (8, .int (nI v))] [.int D, .int y, .ref (ad 207)] (uI (uI (uL (uL m 205 k a) 206 k b) 208 k x1) 209 k x2) := by
        intro Q D k y hk hy hq
        rw [hk, hy]
        refine g_X12_stateNow_122 (e2 := 207) ly_207 ⟨nat_in (by omega) (by decide), nat_in hv (by decide), ?_⟩
        rw [nI_clamp (by omega), nI_clamp (by omega)]
        show Q (some (.int (m.1 187 43 + 1 - 1))) (uI (uI (uI (uI (uI (uL (uL m 205 N a) 206 N b) 208 N x1) 209 N x2) 207 N D) 187 43 (m.1 187 43 + 1)) 210 v (m.1 187 43 + 1))
        have eS : nI N + 1 - 1 = nI N := by rw [nI_1]; exact nI_sb (a := N + 1) (b := 1) (by omega) (by omega)
        rw [en, eS, nI_1]
        exact hq
      have fin2 : ∀ D : Int32, 0 ≤ D.toInt → D.toInt ≤ (N : Int) → (D.toInt = 0 ∨ ∃ p : Nat, x1 = nI p ∧ p < N ∧ D.toInt = (m.1 207 p).toInt + 1) → (-1 ≤ x1.toInt ∧ x1.toInt ≤ 2999) → (x1 = -1 → D = 0) → (∀ p, p < N → x1 = nI p → D = m.1 207 p + 1) → SnQ m N a b x1 (some (.int (nI N))) (snM m N v a b x1 x2 D) := by
        intro D hD1 hD2 hD hx g1 g2
        have F := sn_facts (m := m) (n := N) (v := v) (w2 := a) (w4 := b) (x1 := x1) (x2 := x2) (D := D) w s en hN3 hv hz hx.1 hx.2 hD1 hD2 hD
        have cA : ∀ j, (snM m N v a b x1 x2 D).2.1 205 j = if j = N then a else m.2.1 205 j := fun j => by
          show (if 205 = 206 ∧ j = N then b else if 205 = 205 ∧ j = N then a else m.2.1 205 j) = _
          rw [if_neg (fun z => absurd z.1 (by decide))]
          by_cases c : j = N
          · rw [if_pos ⟨rfl, c⟩, if_pos c]
          · rw [if_neg (fun z => c z.2), if_neg c]
        have cB : ∀ j, (snM m N v a b x1 x2 D).2.1 206 j = if j = N then b else m.2.1 206 j := fun j => by
          show (if 206 = 206 ∧ j = N then b else if 206 = 205 ∧ j = N then a else m.2.1 206 j) = _
          by_cases c : j = N
          · rw [if_pos ⟨rfl, c⟩, if_pos c]
          · rw [if_neg (fun z => c z.2), if_neg (fun z => c z.2), if_neg c]
        have cT : ∀ j, (snM m N v a b x1 x2 D).1 210 j = if j = v then nI (N + 1) else m.1 210 j := fun j => by
          by_cases c : j = v
          · subst c
            rw [if_pos rfl]
            exact u_eq
          · rw [if_neg c]
            exact (u_ne (fun z => c z.2)).trans ((u_ne (by omega)).trans ((u_ne (by omega)).trans ((u_ne (by omega)).trans (u_ne (by omega)))))
        have cD : ∀ j, (snM m N v a b x1 x2 D).1 207 j = if j = N then D else m.1 207 j := fun j => by
          refine (u_ne (by omega)).trans ((u_ne (by omega)).trans ?_)
          by_cases c : j = N
          · subst c
            rw [if_pos rfl]
            exact u_eq
          · rw [if_neg c]
            exact (u_ne (fun z => c z.2)).trans ((u_ne (by omega)).trans (u_ne (by omega)))
        refine ⟨F.1, F.2.1, F.2.2, fun j hj => ⟨by rw [cA, if_neg (by omega)], by rw [cB, if_neg (by omega)], by rw [cD, if_neg (by omega)]⟩, Or.inr (Or.inr ⟨miss, hN3, rfl, ⟨rfl, ?_⟩, by rw [cA, if_pos rfl], by rw [cB, if_pos rfl], fun q => by rw [cD, if_pos rfl]; exact g1 q, fun p hp q => by rw [cD, if_pos rfl]; exact g2 p hp q⟩)⟩
        refine t.2.add (p := p) hN3 hp (by rw [← ep]; exact hz) hch miss ?_ (fun j hj => ?_) (by rw [cA, if_pos rfl]) (fun j hj => by rw [cA, if_neg (by omega)]) (by rw [cB, if_pos rfl]) (fun j hj => by rw [cB, if_neg (by omega)])
        · rw [← ep, cT, if_pos rfl]
        · rw [← ep] at hj
          rw [cT, if_neg hj]
      refine ⟨V, V, V, V, fun hx => ?_, fun hx => ?_⟩
      · obtain ⟨p', hp', rfl⟩ := i1.resolve_left hx
        refine ⟨nat_in (by omega) (by decide), ?_⟩
        have t207 := w.at (a := 207) (k := p') (lo := 0) (hi := (p' : Int)) rfl
        have a1 := ti_addc (x := m.1 207 p') (y := 1) (c := 1) rfl (by omega)
        have tp : (nI p').toInt = (p' : Int) := nI_toInt (by omega)
        refine fin _ _ (m.1 187 43).toNatClampNeg (m.1 187 43) cn en ?_
        have ec : ((uI (uI (uL (uL m 205 (m.1 187 43).toNatClampNeg a) 206 (m.1 187 43).toNatClampNeg b) 208 (m.1 187 43).toNatClampNeg (nI p')) 209 (m.1 187 43).toNatClampNeg x2).1 207 (nI p').toNatClampNeg) = m.1 207 p' := by
          rw [nI_clamp (by omega)]
          exact (u_ne (by omega)).trans (u_ne (by omega))
        have hgo := fin2 (m.1 207 p' + 1) (by omega) (by omega) (Or.inr ⟨p', rfl, hp', a1⟩) ⟨by omega, by omega⟩ (fun q => absurd q hx) (fun p2 hp2 q => by rw [(nI_eq (by omega) (by omega)).mp q])
        rw [← ec] at hgo
        exact hgo
      · refine fin _ _ (m.1 187 43).toNatClampNeg (m.1 187 43) cn en ?_
        exact fin2 0 (by decide) (by rw [z0]; omega) (Or.inl rfl) (by rw [hx, zn1]; omega) (fun _ => rfl) (fun p' hp' q => by
          rw [hx] at q
          have := congrArg Int32.toInt q
          rw [nI_toInt (by omega), zn1] at this
          omega)
    · have h5 : N = 3000 := (nI_eq (a := N) (b := 3000) (by omega) (by decide)).mp (en.symm.trans h3)
      exact ⟨w, Fx.rf, s, fun _ _ => ⟨rfl, rfl, rfl⟩, Or.inr (Or.inl ⟨miss, h5, rfl, t⟩)⟩
  · rw [nI_clamp (by omega)] at hz ⊢
    obtain ⟨i, hi, ei, ea, eb⟩ := hr.resolve_right (fun z => hz z.1)
    have eS : nI (i + 1) - 1 = nI i := nI_sb (a := i + 1) (b := 1) (by omega) (by omega)
    rw [ei, eS]
    exact ⟨nat_in hv (by decide), w, Fx.rf, s, fun _ _ => ⟨rfl, rfl, rfl⟩, Or.inl ⟨i, hi, ea, eb, rfl, t⟩⟩
end TBX
