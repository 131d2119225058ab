/-! THE MODEL'S LEAGUE LAID INTO A ROW AND BROUGHT BACK; WHAT CAN BE UNDONE THERE -/
section LAH
variable {ad : Nat → Nat} {d n a na reg x : Nat} {m m' m0 : Wm} {g : GS} {v : EV} {S : List Nat} {H : List GS}
theorem layM_in {n : Nat} {k : Nat} (hk : k < n) : (layM m a x n).1 a (x + k) = layV m k := by
  show (if a = a ∧ x ≤ x + k ∧ x + k < x + n then layV m (x + k - x) else m.1 a (x + k)) = _
  rw [if_pos ⟨rfl, by omega, by omega⟩, Nat.add_sub_cancel_left]
theorem layM_ot {n k : Nat} (hk : ¬ (x ≤ k ∧ k < x + n)) : (layM m a x n).1 a k = m.1 a k := if_neg (fun q => hk q.2)
theorem lay_HL (h : HM n m g) (h8 : n ≤ 8) : HL n a x (layM m a x 57) g := by
  obtain ⟨h1, h2, h3, h4, h5⟩ := h
  have e : ∀ k r, k < 8 → r < 3 → (layM m a x 57).1 a (x + 32 + 3 * k + r) = if r = 0 then m.1 190 k else if r = 1 then m.1 191 k else m.1 192 k := fun k r hk hr => by
    have := layM_in (m := m) (a := a) (x := x) (n := 57) (k := 32 + 3 * k + r) (by omega)
    rw [show x + (32 + 3 * k + r) = x + 32 + 3 * k + r by omega] at this
    rw [this, layV_b hk hr]
  refine ⟨h8, fun k hk => ?_, fun k hk => ?_, fun k hk => ?_, fun k hk => ?_, ?_⟩
  · rw [layM_in (by omega), layV_a (by omega)]; exact h1 k hk
  · have := e k 0 (by omega) (by decide); exact this.trans (h2 k hk)
  · have := e k 1 (by omega) (by decide); exact this.trans (h3 k hk)
  · have := e k 2 (by omega) (by decide); exact this.trans (h4 k hk)
  · rw [layM_in (by omega)]
    exact h5
theorem layH (ha : LAY[a]? = some (.inr (0, na))) (hn : ∀ b ∈ [187, 188, 190, 191, 192], b ≠ a) (hb : na < 100000) (hty : ∀ k, TY a k = none) (hrg : ∀ k, RS [reg] a k) (w : WT m) (h : HM n m g) (h8 : n ≤ 8) (hx : x + 57 ≤ na) :
    Ct ad μX12_lay d [.ref (ad 187), .ref (ad a), .int (nI x)] m (fun r m' => r = none ∧ WT m' ∧ Fx (RS [reg]) m m' ∧ HL n a x m' g ∧ (∀ k, ¬ (x ≤ k ∧ k < x + 57) → m'.1 a k = m.1 a k) ∧ ∀ b k, b ≠ a → m'.1 b k = m.1 b k) := by
  refine (layC ha hn hx hb).to ?_
  rintro _ m' ⟨rfl, e⟩
  obtain rfl := e
  exact ⟨rfl, w.same (fun b k h => layM_at (fun q => h (by rw [q]; exact hty k))) rfl, fun b k h => ⟨layM_at (fun q => h (by rw [q]; exact hrg k)), rfl, rfl⟩, lay_HL h h8, fun k hk => layM_ot hk, fun b k hb => layM_at hb⟩
theorem tgA_a {k : Nat} (h : k < 32) : tgt k = (188, k) := if_pos h
theorem tgA_b {k r : Nat} (h : k < 8) (hr : r < 3) : tgt (32 + 3 * k + r) = (190 + r, k) := by
  unfold tgt
  rw [if_neg (by omega), if_pos (by omega), show (32 + 3 * k + r - 32) % 3 = r by omega, show (32 + 3 * k + r - 32) / 3 = k by omega]
theorem bringH (ha : LAY[a]? = some (.inr (0, na))) (hn : ∀ b ∈ [187, 188, 190, 191, 192], b ≠ a) (hb : na < 100000) (w : WT m) (h : HL n a x m g) (hx : x + 57 ≤ na) :
    Ct ad μX12_bring d [.ref (ad 187), .ref (ad a), .int (nI x)] m (fun r m' => r = none ∧ WT m' ∧ Fx (RS [24, 49]) m m' ∧ HM n m' g) := by
  refine (bringC ha hn hx hb).to ?_
  rintro _ m' ⟨rfl, e⟩
  obtain rfl := e
  obtain ⟨h8, h1, h2, h3, h4, h5⟩ := h
  have B : ∀ k, k < 57 → (brM m a x 57).1 (tgt k).1 (tgt k).2 = m.1 a (x + k) := fun k hk => brM_at hk (Nat.le_refl _)
  refine ⟨rfl, w.same (fun b k h => brM_out (fun i q => h ?_) (Nat.le_refl _)) (congrArg Prod.snd (brM_2 57)), fun b k h => ⟨brM_out (fun i q => h ?_) (Nat.le_refl _), ?_, ?_⟩, fun k hk => ?_, fun k hk => ?_, fun k hk => ?_, fun k hk => ?_, ?_⟩
  · have := (tgt_rg i).1; rw [q] at this; exact this
  · have := (tgt_rg i).2; rw [q] at this; exact this
  · rw [brM_2 57]
  · rw [brM_2 57]
  · have := B k (by omega)
    rw [tgA_a (by omega)] at this
    exact this.trans (h1 k hk)
  · have := B (32 + 3 * k + 0) (by omega)
    rw [tgA_b (by omega) (by decide), show x + (32 + 3 * k + 0) = x + 32 + 3 * k by omega] at this
    exact this.trans (h2 k hk)
  · have := B (32 + 3 * k + 1) (by omega)
    rw [tgA_b (by omega) (by decide), show x + (32 + 3 * k + 1) = x + 32 + 3 * k + 1 by omega] at this
    exact this.trans (h3 k hk)
  · have := B (32 + 3 * k + 2) (by omega)
    rw [tgA_b (by omega) (by decide), show x + (32 + 3 * k + 2) = x + 32 + 3 * k + 2 by omega] at this
    exact this.trans (h4 k hk)
  · exact (B 56 (by decide)).trans h5
theorem gAt_t {j : Nat} {L : List GS} {g : GS} : gAt (g :: L) (j + 1) = gAt L j := rfl
set_option maxHeartbeats 1000000 in
theorem rememberM (w : WT m) (h : HM n m g) (h8 : n ≤ 8) (U : UnM n m H) (hl : H.length ≤ 20) : Ct ad μX12_remember (d + 1) [.ref (ad 187)] m (fun r m' => r = none ∧ WT m' ∧ Fx (RS [29]) m m' ∧ UnM n m' ((g :: H).take 20)) := by
  obtain ⟨h1, h2⟩ := U
  have el : ((g :: H).take 20).length = if 20 < H.length + 1 then 20 else H.length + 1 := by
    rw [List.length_take, List.length_cons]
    split <;> omega
  -- behind what was moved: entry j of H (those with j < L) stands at L - 1 - j
  have fin : ∀ (L : Nat) (m1 : Wm), L < 20 → ((g :: H).take 20).length = L + 1 → L ≤ H.length → WT m1 → Fx (RS [29]) m m1 → m1.1 187 30 = nI L → (∀ j, j < L → HL n 201 (57 * (L - 1 - j)) m1 (gAt H j)) → AW ad E0 μX12_remember (d + 1) (fun r m' => r = none ∧ WT m' ∧ Fx (RS [29]) m m' ∧ UnM n m' ((g :: H).take 20)) 49 [(0, .ref (ad 187))] [] m1 := by
    intro L m1 hL hlen hLH w1 f1 h30 hE
    have H1 := h.fx f1 rfl rfl
    refine g_X12_remember_49 ?_
    rw [h30, l_mul 57 57 rfl]
    refine (layH (na := 1140) (reg := 29) rfl (by decide) (by decide) (fun _ => rfl) (fun _ => rfl) w1 H1 h8 (by omega)).to ?_
    rintro _ m2 ⟨rfl, w2, f2, hL2, hO, hB⟩
    have e30 : m2.1 187 30 = nI L := (hB 187 30 (by decide)).trans h30
    have tL : (nI (L + 1)).toInt = ((L + 1 : Nat) : Int) := nI_toInt (by omega)
    rw [e30, nI_1]
    refine ⟨rfl, rfl, w2.t rfl (by omega) (by omega), (f1.tr f2 (fun _ _ h => h)).i rfl, ?_, fun j hj => ?_⟩
    · rw [hlen]; exact u_eq
    · rw [hlen] at hj ⊢
      rw [gAt_take _ _ _ (by omega)]
      cases j with
      | zero =>
        rw [show 57 * (L + 1 - 1 - 0) = 57 * L by omega]
        exact hL2.k (fun k _ _ => u_ne (by omega))
      | succ j =>
        rw [gAt_t, show 57 * (L + 1 - 1 - (j + 1)) = 57 * (L - 1 - j) by omega]
        exact ((hE j (by omega)).k (fun k h1 h2 => hO k (by omega))).k (fun k _ _ => u_ne (by omega))
  refine v_X12_remember ⟨fun c => ?_, fun c => ?_⟩
  · have hn : ¬ H.length = 20 := fun z => c (by rw [h1, z]; rfl)
    exact fin H.length m (by omega) (by rw [el, if_neg (by omega)]) (Nat.le_refl _) w Fx.rf h1 (fun j hj => h2 j hj)
  · have hn : H.length = 20 := (nI_eq (a := H.length) (b := 20) (by omega) (by decide)).mp (h1.symm.trans c)
    rw [hn] at h1 h2
    have L : ∀ (q k : Nat) (m1 : Wm), k + q = 1083 → WT m1 → Fx (RS [29]) m m1 → m1.1 187 30 = nI 20 → (∀ j, j < k → m1.1 201 j = m.1 201 (j + 57)) → (∀ j, k ≤ j → m1.1 201 j = m.1 201 j) → AW ad E0 μX12_remember (d + 1) (fun r m' => r = none ∧ WT m' ∧ Fx (RS [29]) m m' ∧ UnM n m' ((g :: H).take 20)) 11 [(0, .ref (ad 187)), (1, .int (nI k))] [] m1 := by
      intro q
      induction q with
      | zero =>
        intro k m1 hk w1 f1 h30 a b
        obtain rfl : k = 1083 := hk
        refine g_X12_remember_11 ⟨fun _ => ?_, fun z => absurd (by decide) z⟩
        have e : m1.1 187 30 - (1 : Int32) = nI 19 := by rw [h30]; rfl
        rw [e]
        refine fin 19 _ (by decide) (by rw [el, if_pos (by omega)]) (by omega) (w1.t rfl (by decide) (by decide)) (f1.i rfl) u_eq (fun j hj => ?_)
        refine ((h2 j (by omega)).mv (y := 57 * (19 - 1 - j)) (m' := m1) (fun k hk => ?_)).k (fun k _ _ => u_ne (by omega))
        rw [a (57 * (19 - 1 - j) + k) (by omega)]
        exact congrArg (m.1 201) (by omega)
      | succ q ih =>
        intro k m1 hk w1 f1 h30 a b
        refine g_X12_remember_11 ⟨fun z => absurd ((le_l 1083 1083 rfl (by decide) (by omega)).mp z) (by omega), fun _ => ?_⟩
        rw [add_l 57 57 rfl, nI_1, nI_clamp (by omega), nI_clamp (by omega), b (k + 57) (by omega)]
        refine ⟨nat_in (by omega) (by decide), nat_in (by omega) (by decide), ih (k + 1) _ (by omega) (w1.n rfl) (f1.i rfl) ((u_ne (by omega)).trans h30) (fun j hj => ?_) (fun j hj => (u_ne (by omega)).trans (b j (by omega)))⟩
        by_cases qq : j = k
        · rw [qq]; exact u_eq
        · exact (u_ne (fun z => qq z.2)).trans (a j (by omega))
    exact L 1083 0 m (by decide) w Fx.rf h1 (fun j hj => absurd hj (Nat.not_lt_zero j)) (fun j _ => rfl)
theorem undoM (w : WT m) (h : HM n m g) (h8 : n ≤ 8) (U : UnM n m H) (hl : H.length ≤ 20) : Ct ad μX12_undo (d + 1) [.ref (ad 187)] m (fun r m' => WT m' ∧ Fx (RS [20, 24, 29, 49]) m m' ∧ ((H = [] ∧ r = some (.int (-1)) ∧ HM n m' g ∧ UnM n m' H) ∨ ∃ g' H', H = g' :: H' ∧ r = some (.int (nI H'.length)) ∧ HM n m' g' ∧ UnM n m' H')) := by
  obtain ⟨h1, h2⟩ := U
  have w0 : WT (uI m 187 17 0) := w.n rfl
  have f0 : Fx (RS [20, 24, 29, 49]) m (uI m 187 17 0) := Fx.rf.i rfl
  have e0 : (uI m 187 17 0).1 187 30 = nI H.length := h1
  refine v_X12_undo ?_
  rw [e0]
  cases H with
  | nil =>
    refine ⟨fun c => absurd rfl c, fun _ => ⟨w0, f0, Or.inl ⟨rfl, rfl, h, ?_⟩⟩⟩
    exact ⟨h1, fun j hj => absurd hj (Nat.not_lt_zero j)⟩
  | cons g' H' =>
    rw [List.length_cons] at hl h2 ⊢
    have eb : nI (H'.length + 1) - (1 : Int32) = nI H'.length := nI_sb (a := H'.length + 1) (b := 1) (by omega) (by omega)
    rw [eb]
    have e1 : (uI (uI m 187 17 0) 187 30 (nI H'.length)).1 187 30 = nI H'.length := u_eq
    rw [e1, l_mul 57 57 rfl]
    have tL : (nI H'.length).toInt = ((H'.length : Nat) : Int) := nI_toInt (by omega)
    have w1 : WT (uI (uI m 187 17 0) 187 30 (nI H'.length)) := w0.t rfl (by omega) (by omega)
    have f1 : Fx (RS [20, 24, 29, 49]) m (uI (uI m 187 17 0) 187 30 (nI H'.length)) := f0.i rfl
    have hE : ∀ j, j < H'.length + 1 → HL n 201 (57 * (H'.length - j)) (uI (uI m 187 17 0) 187 30 (nI H'.length)) (gAt (g' :: H') j) := fun j hj => by
      have := h2 j hj
      rw [show H'.length + 1 - 1 - j = H'.length - j by omega] at this
      exact this.k (fun k _ _ => (u_ne (by omega)).trans (u_ne (by omega)))
    have hE0 := hE 0 (by omega)
    rw [Nat.sub_zero] at hE0
    refine ⟨fun _ => (bringH (na := 1140) rfl (by decide) (by decide) w1 hE0 (by omega)).to ?_, fun c => ?_⟩
    · rintro _ m2 ⟨rfl, w2, f2, H2⟩
      have k30 : m2.1 187 30 = nI H'.length := (f2.at (nRS (ρ := 29) rfl rfl)).trans e1
      rw [k30]
      refine ⟨rfl, w2, f1.tr f2 (RS_sub rfl), Or.inr ⟨g', H', rfl, rfl, H2, k30, fun j hj => ?_⟩⟩
      have := (hE (j + 1) (by omega)).fx f2 (fun _ => rfl) rfl
      rw [show H'.length - (j + 1) = H'.length - 1 - j by omega] at this
      exact this
    · have := (nI_eq (a := H'.length + 1) (b := 0) (by omega) (by omega)).mp c
      omega
end LAH
