section ST2
variable {ad : Nat → Nat} {m : Wm}
theorem czf_zero {f : Nat → Int32} : ∀ n, (∀ k, k < n → f k = 0) → czf f n = 0 := by
  intro n
  induction n with
  | zero => intro _; rfl
  | succ n ih =>
    intro h
    show czf f n + (if f n = 0 then 0 else 1) = 0
    rw [ih (fun k hk => h k (by omega)), h n (by omega)]
    rfl
theorem s_X12_clearStates {d : Nat} (w : WT m) : Ct ad μX12_clearStates (d + 1) [.ref (ad 187)] m (fun r m' => WT m' ∧ Fx (RS [24, 34, 35]) m m' ∧ r = none ∧ ST m' ∧ (m'.1 187 43).toInt = 0) := by
  have z0 : (0 : Int32).toInt = 0 := rfl
  have L2 : ∀ n x (m1 : Wm), x + n = 32 → WT m1 → Fx (RS [24, 34, 35]) m m1 → ST m1 → (m1.1 187 43).toInt = 0 → AW ad E0 μX12_clearStates (d + 1) (fun r m' => WT m' ∧ Fx (RS [24, 34, 35]) m m' ∧ r = none ∧ ST m' ∧ (m'.1 187 43).toInt = 0) 34 [(0, .ref (ad 187)), (1, .int (nI x))] [] m1 := by
    intro n
    induction n with
    | zero =>
      intro x m1 hx w1 f1 s1 e1
      obtain rfl : x = 32 := by omega
      refine g_X12_clearStates_34 ⟨fun _ => (s_X12_lay_204 w1 (by decide) (by decide)).to ?_, fun c => absurd (by decide) c⟩
      rintro _ m2 ⟨w2, f2, rfl⟩
      refine ⟨rfl, w2, f1.tr f2 (RS_sub rfl), rfl, s1.fx f2 rfl, ?_⟩
      rw [f2.at (a := 187) (k := 43) (by decide)]
      exact e1
    | succ n ih =>
      intro x m1 hx w1 f1 s1 e1
      refine g_X12_clearStates_34 ⟨fun c => absurd ((le_l 32 32 rfl (by omega) (by omega)).mp c) (by omega), fun _ => ⟨nat_in (by omega) (by decide), ?_⟩⟩
      rw [nI_1]
      refine ih (x + 1) _ (by omega) (w1.n rfl) (f1.i rfl) ?_ e1
      exact s1.fx (S := [24]) ((Fx.rf (m := m1)).i rfl) rfl
  have L1 : ∀ n x (m1 : Wm), x + n = 8192 → WT m1 → Fx (RS [24, 34, 35]) m m1 → (∀ k, k < x → m1.1 210 k = 0) → AW ad E0 μX12_clearStates (d + 1) (fun r m' => WT m' ∧ Fx (RS [24, 34, 35]) m m' ∧ r = none ∧ ST m' ∧ (m'.1 187 43).toInt = 0) 2 [(0, .ref (ad 187)), (1, .int (nI x))] [] m1 := by
    intro n
    induction n with
    | zero =>
      intro x m1 hx w1 f1 h
      obtain rfl : x = 8192 := by omega
      refine g_X12_clearStates_2 ⟨fun _ => ?_, fun c => absurd (by decide) c⟩
      obtain ⟨sd, es, -, s1, s2, -⟩ := w1.nat (a := 187) (k := 1) rfl (by decide)
      show AW ad E0 μX12_clearStates (d + 1) _ 34 [(0, .ref (ad 187)), (1, .int ((4 : Int32) * (m1.1 187 1)))] [] (uI m1 187 43 0)
      rw [es, l_mul 4 4 rfl]
      refine L2 (32 - 4 * sd) _ _ (by omega) (w1.t rfl (by decide) (by decide)) (f1.i rfl) ⟨?_, fun k hk => ?_, fun k hk => absurd (show (k : Int) < 0 from hk) (by omega)⟩ rfl
      · show ((czf (m1.1 210) 8192 : Nat) : Int) ≤ 0
        rw [czf_zero 8192 h]
        decide
      · show (m1.1 210 k).toInt ≤ 0
        rw [h k hk]
        decide
    | succ n ih =>
      intro x m1 hx w1 f1 h
      refine g_X12_clearStates_2 ⟨fun c => absurd ((le_l 8192 8192 rfl (by omega) (by omega)).mp c) (by omega), fun _ => ⟨nat_in (by omega) (by decide), ?_⟩⟩
      rw [nI_1]
      refine ih (x + 1) _ (by omega) (w1.t rfl (by decide) (by decide)) (f1.i rfl) (fun k hk => ?_)
      show (if 210 = 210 ∧ k = (nI x).toNatClampNeg then (0 : Int32) else m1.1 210 k) = 0
      rw [nI_clamp (by omega)]
      by_cases hkx : k = x
      · rw [if_pos ⟨rfl, hkx⟩]
      · rw [if_neg (fun q => hkx q.2)]
        exact h k (by omega)
  exact v_X12_clearStates (L1 8192 0 m rfl w Fx.rf (fun k hk => absurd hk (by omega)))
def snM (m : Wm) (n v : Nat) (w2 w4 : Int64) (x1 x2 D : Int32) : Wm := uI (uI (uI (uI (uI (uL (uL m 205 n w2) 206 n w4) 208 n x1) 209 n x2) 207 n D) 187 43 (nI (n + 1))) 210 v (nI (n + 1))
theorem sn_facts {n v : Nat} {w2 w4 : Int64} {x1 x2 D : Int32} (w : WT m) (s : ST m) (en : m.1 187 43 = nI n) (hn : n < 3000) (hv : v < 8192) (hz : m.1 210 v = 0) (hx1 : (-1 : Int) ≤ x1.toInt) (hx2 : x1.toInt ≤ 2999) (hD1 : 0 ≤ D.toInt) (hD2 : D.toInt ≤ (n : Int)) (hD : D.toInt = 0 ∨ ∃ p : Nat, x1 = nI p ∧ p < n ∧ D.toInt = (m.1 207 p).toInt + 1) : WT (snM m n v w2 w4 x1 x2 D) ∧ Fx (RS [35]) m (snM m n v w2 w4 x1 x2 D) ∧ ST (snM m n v w2 w4 x1 x2 D) := by
  have t1 : (nI (n + 1)).toInt = (n : Int) + 1 := by rw [nI_toInt (by omega)]; omega
  have t0 : (nI n).toInt = (n : Int) := nI_toInt (by omega)
  obtain ⟨s1, s2, s3⟩ := s
  rw [en, t0] at s1 s2 s3
  refine ⟨?_, ?_, ?_⟩
  · unfold snM
    exact (((((w.l.l.t rfl hx1 hx2).n rfl).t rfl hD1 hD2).t rfl (by omega) (by omega)).t rfl (by omega) (by omega))
  · unfold snM
    exact (((((((Fx.rf (S := RS [35]) (m := m)).l (a := 205) rfl).l (a := 206) rfl).i (a := 208) rfl).i (a := 209) rfl).i (a := 207) rfl).i (a := 187) (k := 43) rfl).i (a := 210) rfl
  · have e43 : (snM m n v w2 w4 x1 x2 D).1 187 43 = nI (n + 1) := rfl
    have e210 : ∀ j, (snM m n v w2 w4 x1 x2 D).1 210 j = if j = v then nI (n + 1) else m.1 210 j := by
      intro j
      show (if 210 = 210 ∧ j = v then nI (n + 1) else m.1 210 j) = _
      by_cases hj : j = v
      · rw [if_pos ⟨rfl, hj⟩, if_pos hj]
      · rw [if_neg (fun q => hj q.2), if_neg hj]
    have e207 : ∀ j, (snM m n v w2 w4 x1 x2 D).1 207 j = if j = n then D else m.1 207 j := by
      intro j
      show (if 207 = 207 ∧ j = n then D else m.1 207 j) = _
      by_cases hj : j = n
      · rw [if_pos ⟨rfl, hj⟩, if_pos hj]
      · rw [if_neg (fun q => hj q.2), if_neg hj]
    have e208 : ∀ j, (snM m n v w2 w4 x1 x2 D).1 208 j = if j = n then x1 else m.1 208 j := by
      intro j
      show (if 208 = 208 ∧ j = n then x1 else m.1 208 j) = _
      by_cases hj : j = n
      · rw [if_pos ⟨rfl, hj⟩, if_pos hj]
      · rw [if_neg (fun q => hj q.2), if_neg hj]
    unfold ST
    rw [e43, t1]
    refine ⟨?_, fun k hk => ?_, fun k hk => ?_⟩
    · have := (czf_upd (f := m.1 210) (g := (snM m n v w2 w4 x1 x2 D).1 210) (p := v) (fun j hj => by rw [e210, if_neg hj]) 8192).1 hv
      omega
    · rw [e210]
      by_cases hj : k = v
      · rw [if_pos hj, t1]; exact Int.le_refl _
      · rw [if_neg hj]
        have := s2 k hk
        omega
    · by_cases hj : k = n
      · rw [e207, if_pos hj, e208, if_pos hj]
        rcases hD with h | ⟨p, h1, h2, h3⟩
        · exact Or.inl h
        · refine Or.inr ⟨p, h1, by omega, ?_⟩
          rw [e207, if_neg (by omega)]
          exact h3
      · rw [e207, if_neg hj, e208, if_neg hj]
        rcases s3 k (by omega) with h | ⟨p, h1, h2, h3⟩
        · exact Or.inl h
        · refine Or.inr ⟨p, h1, h2, ?_⟩
          rw [e207, if_neg (by omega)]
          exact h3
theorem s_X12_stateNow {d : Nat} {x1 x2 : Int32} (w : WT m) (s : ST m) (i1 : x1.toInt = -1 ∨ (0 ≤ x1.toInt ∧ x1.toInt < (m.1 187 43).toInt)) : Ct ad μX12_stateNow (d + 1) [.ref (ad 187), .int x1, .int x2, .int 3000] m (fun r m' => WT m' ∧ Fx (RS [35]) m m' ∧ ST m' ∧ ((m'.1 187 43).toInt = (m.1 187 43).toInt ∨ (m'.1 187 43).toInt = (m.1 187 43).toInt + 1) ∧ (1 ≤ (m'.1 187 43).toInt ∨ (m.1 187 43).toInt = 3000) ∧ ∃ v : Int32, r = some (.int v) ∧ (-1 : Int) ≤ v.toInt ∧ v.toInt ≤ 2999 ∧ (v.toInt = -1 → (m.1 187 43).toInt = 3000) ∧ v.toInt < (m'.1 187 43).toInt) := by
  have z0 : (0 : Int32).toInt = 0 := rfl
  have z1 : (1 : Int32).toInt = 1 := rfl
  have zn1 : (-1 : Int32).toInt = -1 := rfl
  refine v_X12_stateNow ((s_X12_half w (by decide) (by decide)).to ?_)
  rintro _ m1 ⟨w1, f1, w2, rfl⟩
  refine ⟨w2, rfl, (s_X12_half w1 (by decide) (by decide)).to ?_⟩
  rintro _ m3 ⟨w3, f3, w4, rfl⟩
  have f3' : Fx (RS []) m m3 := f1.tr f3 (RS_sub rfl)
  have s3 := s.fx f3' rfl
  have t43 := w3.at (a := 187) (k := 43) rfl
  refine ⟨w4, rfl, (slot_ok w3 (by have := s3.1; omega)).to ?_⟩
  rintro _ m5 ⟨eq, v, rfl, hv⟩
  obtain rfl := eq.symm
  have e43 : m3.1 187 43 = m.1 187 43 := f3'.at (by decide)
  rw [← e43] at i1 ⊢
  obtain ⟨n, en, cn, n1, n2, n3⟩ := w3.nat (a := 187) (k := 43) rfl (by decide)
  refine ⟨nI v, rfl, nat_in hv (by decide), fun hz => ⟨fun h3 => ?_, fun h3 => ?_⟩, fun hz => ⟨nat_in hv (by decide), w3, (Fx.rf (S := RS [35])).tr f3' (RS_sub rfl), s3, Or.inl rfl, ?_⟩⟩
  · have hn : n < 3000 := by
      have h4 := z_ne h3
      have h5 : (3000 : Int32).toInt = 3000 := rfl
      rw [en, nI_toInt n3] at h4
      omega
    have V : vp_in (m3.1 187 43) 3000 := by rw [en]; exact nat_in hn (by decide)
    rw [nI_clamp (by omega)] at hz
    have d1 : x1.toInt ≤ 2999 := by rw [en, nI_toInt n3] at i1; omega
    have fin : ∀ (Q : Option Value → Wm → Prop) (D : Int32) (k : Nat) (b : Int32), k = n → b = nI n → Q (some (.int (nI n))) (snM m3 n v w2 w4 x1 x2 D) → AW ad E0 μX12_stateNow (d + 1) Q 122 [(0, .ref (ad 187)), (8, .int (nI v))] [.int D, .int b, .ref (ad 207)] (uI (uI (uL (uL m3 205 k w2) 206 k w4) 208 k x1) 209 k x2) := by
      intro Q D k b hk hb hq
      rw [hk, hb]
      refine g_X12_stateNow_122 (e2 := 207) ly_207 ⟨nat_in (by omega) (by decide), nat_in hv (by decide), ?_⟩
      rw [nI_clamp (by omega), nI_clamp (by omega)]
      show Q (some (.int (m3.1 187 43 + 1 - 1))) (uI (uI (uI (uI (uI (uL (uL m3 205 n w2) 206 n w4) 208 n x1) 209 n x2) 207 n D) 187 43 (m3.1 187 43 + 1)) 210 v (m3.1 187 43 + 1))
      have eS : nI n + 1 - 1 = nI n := by
        refine (fa_eq _ _).mpr ?_
        rw [nI_1, ti_subc (c := 1) rfl (by rw [nI_toInt (by omega)]; omega), nI_toInt (by omega), nI_toInt (by omega)]
        omega
      rw [en, eS, nI_1]
      exact hq
    have fin2 : ∀ D : Int32, 0 ≤ D.toInt → D.toInt ≤ (n : Int) → (D.toInt = 0 ∨ ∃ p : Nat, x1 = nI p ∧ p < n ∧ D.toInt = (m3.1 207 p).toInt + 1) → WT (snM m3 n v w2 w4 x1 x2 D) ∧ Fx (RS [35]) m (snM m3 n v w2 w4 x1 x2 D) ∧ ST (snM m3 n v w2 w4 x1 x2 D) ∧ (((snM m3 n v w2 w4 x1 x2 D).1 187 43).toInt = (m3.1 187 43).toInt ∨ ((snM m3 n v w2 w4 x1 x2 D).1 187 43).toInt = (m3.1 187 43).toInt + 1) ∧ (1 ≤ ((snM m3 n v w2 w4 x1 x2 D).1 187 43).toInt ∨ (m3.1 187 43).toInt = 3000) ∧ ∃ v' : Int32, some (Value.int (nI n)) = some (.int v') ∧ (-1 : Int) ≤ v'.toInt ∧ v'.toInt ≤ 2999 ∧ (v'.toInt = -1 → (m3.1 187 43).toInt = 3000) ∧ v'.toInt < ((snM m3 n v w2 w4 x1 x2 D).1 187 43).toInt := by
      intro D hD1 hD2 hD
      have F := sn_facts (m := m3) (n := n) (v := v) (w2 := w2) (w4 := w4) (x1 := x1) (x2 := x2) (D := D) w3 s3 en hn hv hz (by omega) d1 hD1 hD2 hD
      have e1 : ((snM m3 n v w2 w4 x1 x2 D).1 187 43).toInt = (n : Int) + 1 := by
        show (nI (n + 1)).toInt = _
        rw [nI_toInt (by omega)]; omega
      have e2 : (nI n).toInt = (n : Int) := nI_toInt (by omega)
      rw [e1, en, e2]
      exact ⟨F.1, ((Fx.rf (S := RS [35])).tr f3' (RS_sub rfl)).tr F.2.1 (RS_sub rfl), F.2.2, Or.inr rfl, Or.inl (by omega), nI n, rfl, by omega, by omega, by omega, by omega⟩
    refine ⟨V, V, V, V, fun hx => ?_, fun hx => ?_⟩
    · have hx' : x1.toInt ≠ -1 := fun q => hx ((fa_eq _ _).mpr (q.trans zn1.symm))
      obtain ⟨p, hp, rfl⟩ := zn_of (x := x1) (by omega)
      rw [nI_toInt hp] at i1 d1
      have hp2 : p < n := by rw [en, nI_toInt n3] at i1; omega
      refine ⟨nat_in (by omega) (by decide), ?_⟩
      have t207 := w3.at (a := 207) (k := p) (lo := 0) (hi := (p : Int)) rfl
      have a1 := ti_addc (x := m3.1 207 p) (y := 1) (c := 1) rfl (by omega)
      refine fin _ _ (m3.1 187 43).toNatClampNeg (m3.1 187 43) cn en ?_
      refine fin2 _ ?_ ?_ (Or.inr ⟨p, rfl, hp2, ?_⟩)
      · show 0 ≤ (m3.1 207 (nI p).toNatClampNeg + 1).toInt
        rw [nI_clamp hp]; omega
      · show (m3.1 207 (nI p).toNatClampNeg + 1).toInt ≤ _
        rw [nI_clamp hp]; omega
      · show (m3.1 207 (nI p).toNatClampNeg + 1).toInt = _
        rw [nI_clamp hp]; exact a1
    · refine fin _ _ (m3.1 187 43).toNatClampNeg (m3.1 187 43) cn en ?_
      exact fin2 0 (by decide) (by rw [z0]; omega) (Or.inl rfl)
  · have h5 : (m3.1 187 43).toInt = 3000 := by rw [h3]; rfl
    exact ⟨w3, (Fx.rf (S := RS [35])).tr f3' (RS_sub rfl), s3, Or.inl rfl, Or.inr h5, -1, rfl, by omega, by omega, fun _ => h5, by omega⟩
  · rw [nI_clamp (by omega)] at hz ⊢
    have t1 := w3.at (a := 210) (k := v) rfl
    have t2 := s3.2.1 v hv
    have t3 := z_ne hz
    have t4 := ti_subc (x := m3.1 210 v) (y := 1) (c := 1) rfl (by omega)
    exact ⟨Or.inl (by omega), _, rfl, by omega, by omega, by omega, by omega⟩
end ST2
