/-! ONE CALL ON NEW OBJECTS: found, and the searches over one state -/
section P1D
variable {ad : Nat → Nat} {d : Nat} {m : Wm}
theorem c_found (h : m.1 3 3 = 0) (h15 : m.1 0 15 = 0) : Ct ad μX11_found (d + 2) [.ref (ad 0)] m (Ans m 0) := by
  refine v_X11_found ?_
  have st : ∀ j k, j + k = 8 → ∀ M : Wm, M.1 3 3 = 0 → M.1 0 15 = 0 → Sm m M → AW ad E0 μX11_found (d + 2) (Ans m 0) 2 [(0, .ref (ad 0)), (1, .int (nI k))] [] M := by
    intro j
    induction j with
    | zero =>
      intro k hk M h1 h2 hs
      obtain rfl : k = 8 := by omega
      refine g_X11_found_2 ⟨fun _ => g_X11_found_25 ⟨fun _ => g_X11_found_87 ⟨fun _ => v_bitCount.to ?_, fun h => absurd (by rw [h1]; decide) h⟩, fun h => absurd (by rw [h2]; decide) h⟩, fun h => absurd (by decide) h⟩
      rintro _ _ ⟨rfl, rfl⟩
      exact ⟨_, rfl, fun h => absurd rfl h, fun _ => g_X11_found_139 ⟨nat_in (k := 0) (by decide) (by decide), v_X11_tell__ ⟨rfl, rfl, (((hs.l (by decide)).l (by decide)).l (by decide)).i (by decide)⟩⟩⟩
    | succ j ih =>
      intro k hk M h1 h2 hs
      refine g_X11_found_2 ⟨fun h => absurd ((le_l 8 8 rfl (by omega) (by omega)).mp h) (by omega), fun _ => ⟨nat_in (by omega) (by decide), ?_⟩⟩
      rw [nI_1]
      exact ih (k + 1) (by omega) _ h1 h2 (hs.i (by decide))
  exact st 8 0 rfl m h h15 Sm.rf
/-! the class's one state -/
theorem skillC {b : Nat} {x y : Int32} (hb : St b) (h : ∀ k : Nat, k < 32 → m.1 (b + 1) k = 0) : Ct ad μX8_skillOf d [.ref (ad b), .int x, .int y] m (fun r m' => m' = m ∧ r = some (.int 0)) := by
  refine v_X8_skillOf hb ⟨fun _ => ⟨rfl, rfl⟩, fun h1 => ⟨fun _ => ⟨rfl, rfl⟩, fun h2 => ?_⟩⟩
  have hv : vp_in ((x * 4) + y) 32 := vin (M := 32) rfl h1 (fa_of_nle h2)
  refine ⟨hv, rfl, ?_⟩
  obtain ⟨j, hj, e⟩ := vp_in_of hv (by decide)
  rw [e, nI_clamp (by omega), h j hj]
theorem packed0 {b : Nat} {x : Int32} (hb : St b) (h : ∀ k : Nat, k < 32 → m.1 (b + 1) k = 0) : Ct ad μX9_packed (d + 1) [.ref (ad b), .int x] m (fun r m' => m' = m ∧ r = some (.long 0)) := by
  refine v_X9_packed hb ?_
  have st : ∀ j, AW ad E0 μX9_packed (d + 1) (fun r m' => m' = m ∧ r = some (.long 0)) 5 [(0, .ref (ad b)), (1, .int x), (2, .long 0), (4, .int (nI j + -1))] [] m ∨ ¬ j < 2147483648 := by
    intro j
    induction j with
    | zero => exact Or.inl (g_X9_packed_5 hb ⟨fun _ => ⟨rfl, by simp⟩, fun h => absurd dec_0 h⟩)
    | succ j ih =>
      by_cases hj : j + 1 < 2147483648
      · refine Or.inl ?_
        rw [dec_n]
        refine g_X9_packed_5 hb ⟨fun h => absurd h (nI_pos (by omega)), fun _ => (skillC hb h).to ?_⟩
        rintro _ _ ⟨rfl, rfl⟩
        refine ⟨0, rfl, ?_⟩
        have e : ((0 : Int64) <<< ((3 : Int32).toInt64 &&& 63)) ||| (0 : Int32).toInt64 = 0 := by decide
        rw [e]
        exact ih.resolve_right (by omega)
      · exact Or.inr hj
  exact (st 4).resolve_right (by decide)
abbrev OneC (m m' : Wm) : Prop := Sm m m' ∧ m'.1 3 3 = 0 ∧ m'.1 151 4 = 1 ∧ m'.1 165 0 = m.1 165 0 ∧ m'.2.1 152 0 = 0 ∧ m'.2.1 153 0 = 0
theorem put0 (h : m.1 3 3 = 0) (h1 : m.1 151 4 = 0) (h2 : m.1 154 0 = 0) : Ct ad μX9_put d [.ref (ad 151), .long 0, .long 0] m (fun r m' => r = some (.int 0) ∧ OneC m m') := by
  refine v_X9_put ?_
  have e0 : (((((((0 : Int64) * (-7046029254386353131 : Int64)) ^^^ ((0 : Int64) * (-4417276706812531889 : Int64))).toUInt64 >>> ((40 : Int32).toInt64.toUInt64 &&& Int64.toUInt64 63)).toInt64).toInt32) &&& (8191 : Int32)) = 0 := by decide
  rw [e0]
  refine g_X9_put_29 ⟨fun h => absurd h (by decide), fun _ => ⟨nat_in (k := 0) (by decide) (by decide), fun _ => g_X9_put_101 ⟨fun _ => ?_, fun h3 => absurd ?_ h3⟩, fun h3 => absurd h2 h3⟩⟩
  · have e1 : (uI m 151 5 0).1 151 4 = 0 := h1
    have v0 : vp_in (0 : Int32) 3000 := nat_in (k := 0) (by decide) (by decide)
    have v1 : ∀ M : Wm, M.1 151 4 = 0 → vp_in (M.1 151 4) 3000 := fun M h => by rw [h]; exact v0
    refine ⟨v1 _ h1, v1 _ h1, v1 _ h1, nat_in (k := 0) (by decide) (by decide), ?_, ?_, h, ?_, rfl, ?_, ?_⟩
    · show some (Value.int (m.1 151 4 + 1 - 1)) = _
      rw [h1]; rfl
    · refine Sm.i (Sm.i (Sm.i (Sm.i (Sm.l (Sm.l (Sm.i Sm.rf (by decide)) (by decide)) (by decide)) (by decide)) (by decide)) (by decide)) (by decide)
    · show m.1 151 4 + 1 = 1
      rw [h1]; rfl
    · show (if 152 = 153 ∧ 0 = (m.1 151 4).toNatClampNeg then (0 : Int64) else if 152 = 152 ∧ 0 = (m.1 151 4).toNatClampNeg then 0 else m.2.1 152 0) = 0
      rw [h1]; rfl
    · show (if 153 = 153 ∧ 0 = (m.1 151 4).toNatClampNeg then (0 : Int64) else if 153 = 152 ∧ 0 = (m.1 151 4).toNatClampNeg then 0 else m.2.1 153 0) = 0
      rw [h1]; rfl
  · show m.1 151 4 < 3000
    rw [h1]; decide
theorem putSk0 {b : Nat} (hb : St b) (hk : ∀ k : Nat, k < 32 → m.1 (b + 1) k = 0) (h : m.1 3 3 = 0) (h1 : m.1 151 4 = 0) (h2 : m.1 154 0 = 0) : Ct ad μX9_putSkillsOf (d + 2) [.ref (ad 151), .ref (ad b)] m (fun r m' => r = some (.int 0) ∧ OneC m m') := by
  refine v_X9_putSkillsOf hb ?_
  have st : ∀ j k, j + k = 4 → AW ad E0 μX9_putSkillsOf (d + 2) (fun r m' => r = some (.int 0) ∧ OneC m m') 8 [(0, .ref (ad 151)), (1, .ref (ad b)), (2, .long 0), (4, .long 0), (6, .int (nI k))] [] m := by
    intro j
    induction j with
    | zero =>
      intro k hj
      obtain rfl : k = 4 := by omega
      refine g_X9_putSkillsOf_8 hb ⟨fun _ => (put0 h h1 h2).to ?_, fun h => absurd (by decide) h⟩
      rintro _ m' ⟨rfl, hO⟩
      exact ⟨0, rfl, rfl, hO⟩
    | succ j ih =>
      intro k hj
      refine g_X9_putSkillsOf_8 hb ⟨fun h => absurd ((le_l 4 4 rfl (by omega) (by omega)).mp h) (by omega), fun _ => (packed0 hb hk).to ?_⟩
      rintro _ _ ⟨rfl, rfl⟩
      refine ⟨0, rfl, (packed0 hb hk).to ?_⟩
      rintro _ _ ⟨rfl, rfl⟩
      refine ⟨0, rfl, ?_⟩
      rw [nI_1]
      exact ih (k + 1) (by omega)
  exact st 4 0 rfl
theorem unp0 {x : Int32} (h : m.1 3 3 = 0) : Ct ad μX6_unpackAll (d + 1) [.ref (ad 156), .ref (ad 3), .int x] m (fun r m' => r = none ∧ m' = m) :=
  v_X6_unpackAll (g_X6_unpackAll_2 ⟨fun _ => ⟨rfl, rfl⟩, fun h1 => absurd (by rw [h]; decide) h1⟩)
theorem expand0 {x : Int32} (h : m.1 3 3 = 0) : Ct ad μX6_expand (d + 2) [.ref (ad 156), .ref (ad 3), .int x] m (fun r m' => r = some (.int 1) ∧ m' = m) := by
  refine v_X6_expand ((unp0 h).to ?_)
  rintro _ m1 ⟨rfl, rfl⟩
  have le0 : ∀ {Q : Prop}, ¬ m1.1 3 3 ≤ 0 → Q := fun h1 => absurd (by rw [h]; decide) h1
  have lp : ∀ x3, AW ad E0 μX6_expand (d + 2) (fun r m' => r = some (.int 1) ∧ m' = m1) 39 [(0, .ref (ad 156)), (1, .ref (ad 3)), (2, .int x), (3, .int (x3 + 1))] [] m1 → ¬ (3 : Int32) ≤ x3 → AW ad E0 μX6_expand (d + 2) (fun r m' => r = some (.int 1) ∧ m' = m1) 39 [(0, .ref (ad 156)), (1, .ref (ad 3)), (2, .int x), (3, .int x3)] [] m1 := fun x3 k hx =>
    g_X6_expand_39 ⟨fun h => absurd h hx, fun _ => g_X6_expand_47 ⟨fun _ => k, fun h1 => le0 h1⟩⟩
  refine ⟨rfl, g_X6_expand_8 ⟨fun _ => lp 0 (lp (0 + 1) (lp (0 + 1 + 1) (g_X6_expand_39 ⟨fun _ => ⟨rfl, rfl⟩, fun h => absurd (by decide) h⟩) (by decide)) (by decide)) (by decide), fun h1 => le0 h1⟩⟩
theorem explore0 (hk : ∀ k : Nat, k < 32 → m.1 22 k = 0) (h : m.1 3 3 = 0) (h1 : m.1 151 4 = 0) (h2 : m.1 154 0 = 0) : Ct ad μX6_explore (d + 3) [.ref (ad 156), .ref (ad 3), .ref (ad 21), .int 3000] m (fun r m' => r = some (.int 1) ∧ Sm m m' ∧ m'.1 3 3 = 0 ∧ m'.1 151 4 = 1 ∧ m'.1 165 0 = 0 ∧ m'.2.1 152 0 = 0 ∧ m'.2.1 153 0 = 0) := by
  refine v_X6_explore St_21 ((copyC St_157 St_21).to ?_)
  rintro _ _ ⟨rfl, rfl⟩
  have c151 : (cpM m 157 21).1 151 4 = 0 := by rw [cpM_out (by decide)]; exact h1
  refine ⟨rfl, v_X9_clear (g_X9_clear_2 ⟨fun _ => ⟨rfl, (putSk0 St_157 (fun k hj => ?_) ?_ ?_ ?_).to ?_⟩, fun h => absurd (by rw [c151]; decide) h⟩)⟩
  · show (if 158 = 151 ∧ k = 4 then (0 : Int32) else (cpM m 157 21).1 158 k) = 0
    rw [if_neg (by decide +revert)]
    have : (cpM m 157 21).1 158 k = m.1 22 k := by
      simp [cpM, uC, uI, va_cpy, hj]
    rw [this]
    exact hk k hj
  · show (cpM m 157 21).1 3 3 = 0
    rw [cpM_out (by decide)]; exact h
  · rfl
  · show (cpM m 157 21).1 154 0 = 0
    rw [cpM_out (by decide)]; exact h2
  · rintro _ M ⟨rfl, hs, a1, a2, a3, a4, a5⟩
    have hs2 : Sm m M := ((Sm.rf.cp (a := 157) (b := 21) (by decide)).i (by decide)).tr hs
    refine ⟨0, rfl, g_X6_explore_51 ⟨fun h => absurd h (by decide), fun _ => ⟨fun h3 => absurd h3 ?_, fun _ => ⟨nat_in (k := 0) (by decide) (by decide), fun _ => (expand0 ?_).to ?_, fun h3 => absurd (by show (0 : Int32) < 3000; decide) h3⟩⟩⟩⟩
    · show ¬ M.1 151 4 ≤ 0
      rw [a2]; decide
    · exact a1
    · rintro _ _ ⟨rfl, rfl⟩
      refine ⟨1, rfl, fun _ => g_X6_explore_51 ⟨fun h => absurd h (by decide), fun _ => ⟨fun _ => ⟨rfl, ((hs2.i (by decide)).i (by decide)).i (by decide), a1, a2, rfl, a4, a5⟩, fun h3 => absurd ?_ h3⟩⟩, fun h => absurd h (by decide)⟩
      show M.1 151 4 ≤ 0 + 1
      rw [a2]; decide
theorem c_quick {v : Int32} (hk : ∀ k : Nat, k < 32 → m.1 22 k = 0) (h : m.1 3 3 = 0) (h1 : m.1 151 4 = 0) (h2 : m.1 154 0 = 0) : Ct ad μX11_quick (d + 4) [.ref (ad 0), .int v] m (Ans m 0) := by
  refine v_X11_quick ((explore0 hk h h1 h2).to ?_)
  rintro _ M ⟨rfl, hs, a1, a2, a3, a4, a5⟩
  refine ⟨1, rfl, fun _ => v_X6_firstStrong (g_X6_firstStrong_2 ⟨fun h3 => absurd h3 (by rw [a2]; decide), fun _ => (unp0 a1).to ?_⟩), fun h => absurd h (by decide)⟩
  rintro _ M2 ⟨rfl, rfl⟩
  refine ⟨rfl, g_X6_firstStrong_25 ⟨fun _ => ⟨fun h => absurd h (by decide), fun _ => ⟨0, rfl, v_X11_tellWayTo ⟨fun _ => v_X6_fillWay (na2 := 10) rfl ⟨nat_in (k := 0) (by decide) (by decide), g_X6_fillWay_10 rfl ⟨fun _ => ⟨rfl, nat_in (k := 0) (by decide) (by decide), nat_in (k := 0) (by decide) (by decide), ⟨_, rfl, ?_, hs.i (by decide)⟩⟩, fun h3 => absurd ?_ h3⟩⟩, fun h => absurd (by decide) h⟩⟩⟩, fun h => absurd (by rw [a1]; decide) h⟩⟩
  · show some (Value.int (M2.1 165 0)) = _
    rw [a3]
  · show M2.1 165 0 ≤ 0
    rw [a3]; decide
theorem skIn0 {x y : Int32} (a4 : m.2.1 152 0 = 0) (a5 : m.2.1 153 0 = 0) : Ct ad μX9_skillIn d [.ref (ad 151), .int 0, .int x, .int y] m (fun r m' => m' = m ∧ r = some (.int 0)) := by
  have e : ∀ s : UInt64, ((((0 : Int64).toUInt64 >>> s).toInt64).toInt32 &&& 7) = 0 := fun s => by
    have : (0 : Int64).toUInt64 >>> s = 0 := by show (0 : UInt64) >>> s = 0; simp
    rw [this]; rfl
  refine v_X9_skillIn ⟨fun _ => ⟨nat_in (k := 0) (by decide) (by decide), g_X9_skillIn_20 ⟨rfl, ?_⟩⟩, fun _ => ⟨nat_in (k := 0) (by decide) (by decide), g_X9_skillIn_20 ⟨rfl, ?_⟩⟩⟩
  · rw [show m.2.1 153 (0 : Int32).toNatClampNeg = 0 from a5, e]
  · rw [show m.2.1 152 (0 : Int32).toNatClampNeg = 0 from a4, e]
theorem totalS0 (a4 : m.2.1 152 0 = 0) (a5 : m.2.1 153 0 = 0) : Ct ad μX9_total (d + 1) [.ref (ad 151), .int 0] m (fun r m' => m' = m ∧ r = some (.int 0)) := by
  refine v_X9_total ?_
  have inr_ : ∀ (x3 : Int32) (j k : Nat), j + k = 4 → AW ad E0 μX9_total (d + 1) (fun r m' => m' = m ∧ r = some (.int 0)) 4 [(0, .ref (ad 151)), (1, .int 0), (2, .int 0), (3, .int (x3 + 1))] [] m → AW ad E0 μX9_total (d + 1) (fun r m' => m' = m ∧ r = some (.int 0)) 13 [(0, .ref (ad 151)), (1, .int 0), (2, .int 0), (3, .int x3), (4, .int (nI k))] [] m := by
    intro x3 j
    induction j with
    | zero =>
      intro k hk h
      obtain rfl : k = 4 := by omega
      exact g_X9_total_13 ⟨fun _ => h, fun h => absurd (by decide) h⟩
    | succ j ih =>
      intro k hk h
      refine g_X9_total_13 ⟨fun h => absurd ((le_l 4 4 rfl (by omega) (by omega)).mp h) (by omega), fun _ => (skIn0 a4 a5).to ?_⟩
      rintro _ _ ⟨rfl, rfl⟩
      refine ⟨0, rfl, ?_⟩
      rw [nI_1]
      exact ih (k + 1) (by omega) h
  have out_ : ∀ j k, j + k = 8 → AW ad E0 μX9_total (d + 1) (fun r m' => m' = m ∧ r = some (.int 0)) 4 [(0, .ref (ad 151)), (1, .int 0), (2, .int 0), (3, .int (nI k))] [] m := by
    intro j
    induction j with
    | zero =>
      intro k hk
      obtain rfl : k = 8 := by omega
      exact g_X9_total_4 ⟨fun _ => ⟨rfl, rfl⟩, fun h => absurd (by decide) h⟩
    | succ j ih =>
      intro k hk
      refine g_X9_total_4 ⟨fun h => absurd ((le_l 8 8 rfl (by omega) (by omega)).mp h) (by omega), fun _ => inr_ (nI k) 4 0 rfl ?_⟩
      rw [nI_1]
      exact ih (k + 1) (by omega)
  exact out_ 8 0 rfl
theorem c_all (hk : ∀ k : Nat, k < 32 → m.1 22 k = 0) (h : m.1 3 3 = 0) (h1 : m.1 151 4 = 0) (h2 : m.1 154 0 = 0) : Ct ad μX11_all (d + 4) [.ref (ad 0)] m (Ans m 1) := by
  refine v_X11_all ((explore0 hk h h1 h2).to ?_)
  rintro _ M ⟨rfl, hs, a1, a2, a3, a4, a5⟩
  refine ⟨1, rfl, fun _ => g_X11_all_35 ⟨fun h3 => absurd h3 (by rw [a2]; decide), fun _ => (totalS0 a4 a5).to ?_⟩, fun h => absurd h (by decide)⟩
  rintro _ M2 ⟨rfl, rfl⟩
  refine ⟨0, rfl, nat_in (k := 0) (by decide) (by decide), g_X11_all_35 ⟨fun _ => v_X11_tell__ ⟨rfl, ?_, (((hs.l (by decide)).l (by decide)).l (by decide)).i (by decide)⟩, fun h3 => absurd (by rw [a2]; decide) h3⟩⟩
  show some (Value.int (M2.1 151 4)) = _
  rw [a2]
/-! the model's one state -/
theorem hv0 (h : ∀ k : Nat, k < 32 → m.1 188 k = 0) {x : Nat} (hx : x + 16 ≤ 32) : ∀ n, n ≤ 16 → hv m x n = 0 := by
  intro n
  induction n with
  | zero => intro _; rfl
  | succ n ih =>
    intro hn
    show (hv m x n <<< ((3 : Int32).toInt64 &&& 63)) ||| (m.1 188 (x + n)).toInt64 = 0
    rw [ih (by omega), h _ (by omega)]
    decide
theorem slot0 (h : m.1 210 0 = 0) : Ct ad μX12_slot d [.ref (ad 187), .long 0, .long 0] m (fun r m' => m' = m ∧ r = some (.int (nI 0))) := by
  refine v_X12_slot ?_
  have e0 : ((((((0 : Int64) * (-7046029254386353131 : Int64)) ^^^ ((0 : Int64) * (-4417276706812531889 : Int64))).toUInt64 >>> ((51 : Int32).toInt64.toUInt64 &&& Int64.toUInt64 63)).toInt64).toInt32) = 0 := by decide
  rw [e0]
  exact g_X12_slot_21 ⟨nat_in (k := 0) (by decide) (by decide), fun _ => ⟨rfl, rfl⟩, fun h1 => absurd h h1⟩
theorem find0 (h : m.1 187 1 = 0) : Ct ad μX12_findStates (d + 2) [.ref (ad 187), .int 3000] m (fun r m' => r = some (.int 1) ∧ m'.1 187 1 = 0 ∧ m'.1 187 43 = 1 ∧ m'.1 207 0 = 0) := by
  have hc : ∀ b j, b ≠ 204 → b ≠ 188 → (clrM m 0).1 b j = (uI (zr m 210 0 8192) 187 43 0).1 b j := fun b j h1 h2 => by
    unfold clrM
    rw [layM_at h1, zr_out h2]
  refine v_X12_findStates ((clearC (s := 0) h (by decide)).to ?_)
  rintro _ _ ⟨rfl, rfl⟩
  have h188 : ∀ k : Nat, k < 32 → (clrM m 0).1 188 k = 0 := fun k hk => by
    unfold clrM
    rw [layM_at (by decide)]
    exact zr_in (Nat.zero_le _) (by omega)
  have h210 : (clrM m 0).1 210 0 = 0 := by
    rw [hc _ _ (by decide) (by decide)]
    show (zr m 210 0 8192).1 210 0 = 0
    exact zr_in (Nat.zero_le 0) (by decide)
  have h43 : (clrM m 0).1 187 43 = nI 0 := by rw [hc _ _ (by decide) (by decide)]; rfl
  have h1 : (clrM m 0).1 187 1 = 0 := by rw [hc _ _ (by decide) (by decide)]; exact h
  refine ⟨rfl, (stateNew (n := 0) (p := 0) (dp := 0) (hv0 h188 (by decide) 16 (by decide)) (hv0 h188 (by decide) 16 (by decide)) (slot0 h210) (by decide) h210 h43 (by decide) (by decide) (Or.inl ⟨rfl, rfl⟩)).to ?_⟩
  rintro _ _ ⟨rfl, rfl⟩
  generalize hM : snM (clrM m 0) 0 0 0 0 (-1) 0 0 = M
  have b1 : M.1 187 1 = 0 := by rw [← hM]; exact h1
  have b43 : M.1 187 43 = 1 := by rw [← hM]; rfl
  have b207 : M.1 207 0 = 0 := by rw [← hM]; rfl
  have le0 : ∀ {Q : Prop}, ¬ M.1 187 1 ≤ 0 → Q := fun h1 => absurd (by rw [b1]; decide) h1
  have fin : AW ad E0 μX12_findStates (d + 2) (fun r m' => r = some (.int 1) ∧ m'.1 187 1 = 0 ∧ m'.1 187 43 = 1 ∧ m'.1 207 0 = 0) 18 [(0, .ref (ad 187)), (1, .int 3000), (2, .int 1), (3, .int (0 + 1))] [] M := by
    refine g_X12_findStates_18 ⟨fun _ => g_X12_findStates_154 ((bringC (x := 0) (na := 57) rfl (by decide) (by decide) (by decide)).to ?_), fun h3 => absurd (by rw [b43]; decide) h3⟩
    rintro _ _ ⟨rfl, rfl⟩
    refine ⟨rfl, bz_1, rfl, ?_, ?_, ?_⟩
    · rw [brM_out (by decide +kernel) (by decide)]; exact b1
    · rw [brM_out (by decide +kernel) (by decide)]; exact b43
    · rw [brM_out (by decide +kernel) (by decide)]; exact b207
  have lp : ∀ x4, AW ad E0 μX12_findStates (d + 2) (fun r m' => r = some (.int 1) ∧ m'.1 187 1 = 0 ∧ m'.1 187 43 = 1 ∧ m'.1 207 0 = 0) 46 [(0, .ref (ad 187)), (1, .int 3000), (2, .int 1), (3, .int 0), (4, .int (x4 + 1))] [] M → ¬ (3 : Int32) ≤ x4 → AW ad E0 μX12_findStates (d + 2) (fun r m' => r = some (.int 1) ∧ m'.1 187 1 = 0 ∧ m'.1 187 43 = 1 ∧ m'.1 207 0 = 0) 46 [(0, .ref (ad 187)), (1, .int 3000), (2, .int 1), (3, .int 0), (4, .int x4)] [] M := fun x4 k hx =>
    g_X12_findStates_46 ⟨fun h => absurd h hx, fun _ => g_X12_findStates_55 ⟨fun _ => k, fun h1 => le0 h1⟩⟩
  refine ⟨_, rfl, g_X12_findStates_18 ⟨fun h3 => absurd h3 (by rw [b43]; decide), fun _ => ⟨fun h => absurd h (by decide), fun _ => ⟨nat_in (k := 0) (by decide) (by decide), fun _ => ?_, fun h3 => absurd (b207.symm.trans h3) (by decide)⟩⟩⟩⟩
  exact lp 0 (lp (0 + 1) (lp (0 + 1 + 1) (g_X12_findStates_46 ⟨fun _ => fin, fun h => absurd (by decide) h⟩) (by decide)) (by decide)) (by decide)
theorem k_quick {v : Int32} (h : m.1 187 1 = 0) : Ct ad μX12_quick (d + 3) [.ref (ad 187), .int v] m (Re 0) := by
  refine v_X12_quick ((find0 (t17 h (by decide))).to ?_)
  rintro _ M ⟨rfl, b1, b43, b207⟩
  refine ⟨1, rfl, fun _ => g_X12_quick_22 ⟨fun h3 => absurd h3 (by rw [b43]; decide), fun _ => ⟨fun h => absurd rfl h, fun _ => (loadC (n := 0) (by decide)).to ?_⟩⟩, fun h => absurd h (by decide)⟩
  rintro _ _ ⟨rfl, rfl⟩
  generalize hN : ldM M (M.2.1 205 0) (M.2.1 206 0) 16 = N
  have c1 : N.1 187 1 = 0 := by rw [← hN, ldM_out (by decide)]; exact b1
  have c43 : N.1 187 43 = 1 := by rw [← hN, ldM_out (by decide)]; exact b43
  have c207 : N.1 207 0 = 0 := by rw [← hN, ldM_out (by decide)]; exact b207
  refine ⟨rfl, g_X12_quick_46 ⟨fun _ => g_X12_quick_83 ⟨fun h => absurd h (by decide), fun _ => g_X12_quick_22 ⟨fun _ => g_X12_quick_100 ((bringC (x := 0) (na := 57) rfl (by decide) (by decide) (by decide)).to ?_), fun h3 => absurd (by rw [c43]; decide) h3⟩⟩, fun h3 => absurd (by rw [c1]; decide) h3⟩⟩
  rintro _ _ ⟨rfl, rfl⟩
  have d207 : (brM N 204 0 57).1 207 0 = 0 := by rw [brM_out (by decide +kernel) (by decide)]; exact c207
  refine ⟨rfl, fun _ => v_X12_tellWay ⟨nat_in (k := 0) (by decide) (by decide), ?_⟩, fun h => absurd h (by decide)⟩
  have e : (brM N 204 0 57).1 207 (0 : Int32).toNatClampNeg = 0 := d207
  rw [e]
  exact g_X12_tellWay_14 ⟨fun _ => g_X12_tellWay_53 ⟨fun _ => ⟨_, rfl, rfl⟩, fun h => absurd (by decide) h⟩, fun h => absurd (by decide) h⟩
theorem k_all (h : m.1 187 1 = 0) : Ct ad μX12_all (d + 3) [.ref (ad 187)] m (Re 1) := by
  refine v_X12_all ((find0 (t17 h (by decide))).to ?_)
  rintro _ M ⟨rfl, b1, b43, b207⟩
  refine ⟨1, rfl, fun _ => g_X12_all_26 ⟨fun h3 => absurd h3 (by rw [b43]; decide), fun _ => (loadC (n := 0) (by decide)).to ?_⟩, fun h => absurd h (by decide)⟩
  rintro _ _ ⟨rfl, rfl⟩
  generalize hN : ldM M (M.2.1 205 0) (M.2.1 206 0) 16 = N
  have c1 : N.1 187 1 = 0 := by rw [← hN, ldM_out (by decide)]; exact b1
  have c43 : N.1 187 43 = 1 := by rw [← hN, ldM_out (by decide)]; exact b43
  refine ⟨rfl, (sumOfAll0 c1).to ?_⟩
  rintro _ N2 ⟨rfl, rfl⟩
  refine ⟨0, rfl, g_X12_all_26 ⟨fun _ => (bringC (x := 0) (na := 57) rfl (by decide) (by decide) (by decide)).to ?_, fun h3 => absurd (by rw [c43]; decide) h3⟩⟩
  rintro _ _ ⟨rfl, rfl⟩
  have d43 : (brM N2 204 0 57).1 187 43 = 1 := by rw [brM_out (by decide +kernel) (by decide)]; exact c43
  generalize brM N2 204 0 57 = B at d43 ⊢
  refine ⟨rfl, (tellM (n := 0) rfl (by decide)).to ?_⟩
  rintro _ m1 ⟨rfl, h1⟩
  have f1 : m1.1 187 43 = 1 := by rw [h1]; exact d43
  have g1 : m1.1 187 16 = nI 1 := by rw [h1]; rfl
  refine ⟨rfl, (tellM (n := 1) g1 (by decide)).to ?_⟩
  rintro _ m2 ⟨rfl, h2⟩
  have f2 : m2.1 187 43 = 1 := by rw [h2]; exact f1
  have g2 : m2.1 187 16 = nI 2 := by rw [h2]; rfl
  refine ⟨rfl, ?_, (tellM (n := 2) g2 (by decide)).to ?_⟩
  · rw [f2]
    exact nat_in (k := 0) (by decide) (by decide)
  · rintro _ m3 ⟨rfl, h3⟩
    have f3 : m3.1 187 43 = 1 := by rw [h3]; exact f2
    exact ⟨rfl, by rw [f3]⟩
end P1D
