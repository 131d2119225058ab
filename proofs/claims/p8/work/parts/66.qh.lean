section
/-! WHAT IS KEPT: THE MODEL -/
section KPM
variable {ad : Nat → Nat} {d : Nat} {m : Wm}
def kpM (m : Wm) (i : Nat) (m' : Wm) : Prop := WT m' ∧ Fx (RS [20, 40]) m m' ∧ m'.1 215 i = 1 ∧ m'.1 216 i = m.1 187 53 ∧ (∀ j, j ≠ i → m'.1 215 j = m.1 215 j ∧ m'.1 216 j = m.1 216 j) ∧ (∀ k, k < 57 → m'.1 214 (71 * i + k) = layV m k) ∧ (∀ s, s < 8 → m'.1 214 (71 * i + 57 + s) = if m.1 189 s = 0 then 0 else 1) ∧ (∀ k, k < 5 → m'.1 214 (71 * i + 65 + k) = m.1 193 k) ∧ m'.1 214 (71 * i + 70) = m.1 187 12 ∧ ∀ k, k < 71 * i ∨ 71 * i + 71 ≤ k → m'.1 214 k = m.1 214 k
theorem layV_at {m m' : Wm} (h : ∀ b, b = 188 ∨ b = 190 ∨ b = 191 ∨ b = 192 → ∀ k, m'.1 b k = m.1 b k) (h8 : m'.1 187 8 = m.1 187 8) (k : Nat) : layV m' k = layV m k := by
  unfold layV
  rw [h 188 (Or.inl rfl), h 190 (Or.inr (Or.inl rfl)), h 191 (Or.inr (Or.inr (Or.inl rfl))), h 192 (Or.inr (Or.inr (Or.inr rfl))), h8]
theorem e_keepM {x : Int32} (w : WT m) : Ct ad μX12_keep (d + 2) [.ref (ad 187), .int x] m (fun r m' => (∃ i, i < 2 ∧ x = nI i ∧ r = some (.int 1) ∧ kpM m i m') ∨ (¬ (0 ≤ x.toInt ∧ x.toInt < 2) ∧ r = some (.int 0) ∧ WT m' ∧ Fx (RS [20]) m m')) := by
  have w0 : WT (uI m 187 17 0) := w.n rfl
  have z0 : (0 : Int32).toInt = 0 := rfl
  have z1 : (1 : Int32).toInt = 1 := rfl
  refine v_X12_keep (d := d + 1) ((in_i (lo := 0) (hi := 1) rfl rfl).to ?_)
  rintro _ m' ⟨eq, rfl⟩
  obtain rfl := eq.symm
  by_cases hc : (0 : Int32) ≤ x ∧ x ≤ 1
  · have h0 := z_le hc.1
    have h1 := z_le hc.2
    obtain ⟨i, hi, rfl⟩ := two_of (x := x) (by omega) (by omega)
    refine ⟨1, by rw [if_pos hc], fun _ => ?_, fun z => absurd z (by decide)⟩
    have e71 : (71 : Int32) * nI i = nI (71 * i) := l_mul 71 71 rfl i
    have eb : vp_nar .boolean (1 : Int32) = 1 := rfl
    rw [nI_clamp (by omega), e71, eb, add_l 57 57 rfl]
    have w2 : WT (uI (uI (uI m 187 17 0) 215 i 1) 216 i ((uI (uI m 187 17 0) 215 i 1).1 187 53)) := (w0.n rfl).n rfl
    have f2 : Fx (RS [20, 40]) m (uI (uI (uI m 187 17 0) 215 i 1) 216 i ((uI (uI m 187 17 0) 215 i 1).1 187 53)) := (((Fx.rf (S := RS [20, 40])).i rfl).i rfl).i rfl
    have a1 : (uI (uI (uI m 187 17 0) 215 i 1) 216 i ((uI (uI m 187 17 0) 215 i 1).1 187 53)).1 215 i = 1 := (u_ne (by omega)).trans u_eq
    have a2 : (uI (uI (uI m 187 17 0) 215 i 1) 216 i ((uI (uI m 187 17 0) 215 i 1).1 187 53)).1 216 i = m.1 187 53 := u_eq
    have a3 : ∀ j, j ≠ i → (uI (uI (uI m 187 17 0) 215 i 1) 216 i ((uI (uI m 187 17 0) 215 i 1).1 187 53)).1 215 j = m.1 215 j ∧ (uI (uI (uI m 187 17 0) 215 i 1) 216 i ((uI (uI m 187 17 0) 215 i 1).1 187 53)).1 216 j = m.1 216 j := fun j hj => ⟨(u_ne (by omega)).trans ((u_ne (fun q => hj q.2)).trans (u_ne (by omega))), (u_ne (fun q => hj q.2)).trans ((u_ne (by omega)).trans (u_ne (by omega)))⟩
    have a4 : ∀ b, b = 188 ∨ b = 189 ∨ b = 190 ∨ b = 191 ∨ b = 192 ∨ b = 193 ∨ b = 214 → ∀ k, (uI (uI (uI m 187 17 0) 215 i 1) 216 i ((uI (uI m 187 17 0) 215 i 1).1 187 53)).1 b k = m.1 b k := fun b hb k => (u_ne (by omega)).trans ((u_ne (by omega)).trans (u_ne (by omega)))
    have a5 : ∀ k, k ≠ 17 → (uI (uI (uI m 187 17 0) 215 i 1) 216 i ((uI (uI m 187 17 0) 215 i 1).1 187 53)).1 187 k = m.1 187 k := fun k hk => (u_ne (by omega)).trans ((u_ne (by omega)).trans (u_ne (fun q => hk q.2)))
    generalize uI (uI (uI m 187 17 0) 215 i 1) 216 i ((uI (uI m 187 17 0) 215 i 1).1 187 53) = m2 at w2 f2 a1 a2 a3 a4 a5 ⊢
    refine ⟨nat_in hi (by decide), nat_in hi (by decide), (layC (na := 142) rfl (by decide) (by omega) (by decide)).to ?_⟩
    rintro _ m3 ⟨rfl, e3⟩
    have w3 : WT m3 := by subst e3; exact w2.same (fun b k h => layM_at (fun q => h (by rw [q]; rfl))) rfl
    have f3 : Fx (RS [20, 40]) m m3 := by
      subst e3
      exact f2.tr (S' := RS [40]) (fun b k h => ⟨layM_at (fun q => h (by rw [q]; rfl)), rfl, rfl⟩) (RS_sub rfl)
    have b1 : ∀ b k, b ≠ 214 → m3.1 b k = m2.1 b k := fun b k hb => by subst e3; exact layM_at hb
    have b2 : ∀ k, m3.1 214 k = if 71 * i ≤ k ∧ k < 71 * i + 57 then layV m2 (k - 71 * i) else m2.1 214 k := fun k => by
      subst e3
      show (if 214 = 214 ∧ 71 * i ≤ k ∧ k < 71 * i + 57 then layV m2 (k - 71 * i) else m2.1 214 k) = _
      by_cases hk : 71 * i ≤ k ∧ k < 71 * i + 57
      · rw [if_pos ⟨rfl, hk⟩, if_pos hk]
      · rw [if_neg (fun q => hk q.2), if_neg hk]
    have lV : ∀ k, layV m2 k = layV m k := layV_at (fun b hb k => a4 b (by omega) k) (a5 8 (by decide))
    refine ⟨rfl, ?_⟩
    have L92 : ∀ (j k : Nat) (m4 : Wm), k + j = 5 → WT m4 → Fx (RS [20, 40]) m m4 → (∀ b k, b ≠ 214 → m4.1 b k = m2.1 b k) → (∀ k, k < 57 → m4.1 214 (71 * i + k) = layV m k) → (∀ s, s < 8 → m4.1 214 (71 * i + 57 + s) = if m.1 189 s = 0 then 0 else 1) → (∀ q, q < k → m4.1 214 (71 * i + 65 + q) = m.1 193 q) → (∀ k, k < 71 * i ∨ 71 * i + 71 ≤ k → m4.1 214 k = m.1 214 k) →
        AW ad E0 μX12_keep (d + 2) (fun r m' => (∃ i', i' < 2 ∧ nI i = nI i' ∧ r = some (.int 1) ∧ kpM m i' m') ∨ (¬ (0 ≤ (nI i).toInt ∧ (nI i).toInt < 2) ∧ r = some (.int 0) ∧ WT m' ∧ Fx (RS [20]) m m')) 92 [(0, .ref (ad 187)), (2, .int (nI (71 * i + 57 + 8))), (3, .int (nI k))] [] m4 := by
      intro j
      induction j with
      | zero =>
        intro k m4 hk w4 f4 c1 c2 c3 c4 c5
        obtain rfl : k = 5 := hk
        refine g_X12_keep_92 ?_
        rw [add_l 5 5 rfl, nI_clamp (by omega)]
        have ek : 71 * i + 57 + 8 + 5 = 71 * i + 70 := by omega
        refine ⟨fun _ => ⟨nat_in (by omega) (by decide), Or.inl ⟨i, hi, rfl, rfl, w4.n rfl, f4.i rfl, (u_ne (by omega)).trans ((c1 215 i (by decide)).trans a1), (u_ne (by omega)).trans ((c1 216 i (by decide)).trans a2), fun j hj => ⟨(u_ne (by omega)).trans ((c1 215 j (by decide)).trans (a3 j hj).1), (u_ne (by omega)).trans ((c1 216 j (by decide)).trans (a3 j hj).2)⟩, fun k hk => (u_ne (by omega)).trans (c2 k hk), fun s hs => (u_ne (by omega)).trans (c3 s hs), fun k hk => (u_ne (by omega)).trans (c4 k hk), ?_, fun k hk => (u_ne (by omega)).trans (c5 k hk)⟩⟩, fun z => absurd (by decide) z⟩
        rw [ek]
        exact u_eq.trans ((c1 187 12 (by decide)).trans (a5 12 (by decide)))
      | succ j ih =>
        intro k m4 hk w4 f4 c1 c2 c3 c4 c5
        refine g_X12_keep_92 ?_
        rw [nI_add, nI_1, nI_clamp (by omega), nI_clamp (by omega)]
        refine ⟨fun z => absurd ((le_l 5 5 rfl (by decide) (by omega)).mp z) (by omega), fun _ => ⟨nat_in (by omega) (by decide), nat_in (by omega) (by decide), ih (k + 1) _ (by omega) (w4.n rfl) (f4.i rfl) (fun b q hb => (u_ne (fun z => hb z.1)).trans (c1 b q hb)) (fun q hq => (u_ne (by omega)).trans (c2 q hq)) (fun s hs => (u_ne (by omega)).trans (c3 s hs)) (fun q hq => ?_) (fun q hq => (u_ne (by omega)).trans (c5 q hq))⟩⟩
        by_cases hqk : q = k
        · subst hqk
          have e : 71 * i + 65 + q = 71 * i + 57 + 8 + q := by omega
          rw [e]
          exact u_eq.trans ((c1 193 q (by decide)).trans (a4 193 (by decide) q))
        · exact (u_ne (by omega)).trans (c4 q (by omega))
    have L53 : ∀ (j s : Nat) (m4 : Wm), s + j = 8 → WT m4 → Fx (RS [20, 40]) m m4 → (∀ b k, b ≠ 214 → m4.1 b k = m2.1 b k) → (∀ k, k < 57 → m4.1 214 (71 * i + k) = layV m k) → (∀ q, q < s → m4.1 214 (71 * i + 57 + q) = if m.1 189 q = 0 then 0 else 1) → (∀ k, k < 71 * i ∨ 71 * i + 71 ≤ k → m4.1 214 k = m.1 214 k) →
        AW ad E0 μX12_keep (d + 2) (fun r m' => (∃ i', i' < 2 ∧ nI i = nI i' ∧ r = some (.int 1) ∧ kpM m i' m') ∨ (¬ (0 ≤ (nI i).toInt ∧ (nI i).toInt < 2) ∧ r = some (.int 0) ∧ WT m' ∧ Fx (RS [20]) m m')) 53 [(0, .ref (ad 187)), (2, .int (nI (71 * i + 57))), (3, .int (nI s))] [] m4 := by
      intro j
      induction j with
      | zero =>
        intro s m4 hs w4 f4 c1 c2 c3 c5
        obtain rfl : s = 8 := hs
        refine g_X12_keep_53 ?_
        rw [add_l 8 8 rfl]
        exact ⟨fun _ => L92 5 0 m4 rfl w4 f4 c1 c2 c3 (fun q hq => absurd hq (Nat.not_lt_zero q)) c5, fun z => absurd (by decide) z⟩
      | succ j ih =>
        intro s m4 hs w4 f4 c1 c2 c3 c5
        refine g_X12_keep_53 ?_
        rw [nI_add, nI_1, nI_clamp (by omega), nI_clamp (by omega), c1 189 s (by decide), a4 189 (by decide) s]
        have nx : ∀ v : Int32, (v = if m.1 189 s = 0 then 0 else 1) → AW ad E0 μX12_keep (d + 2) (fun r m' => (∃ i', i' < 2 ∧ nI i = nI i' ∧ r = some (.int 1) ∧ kpM m i' m') ∨ (¬ (0 ≤ (nI i).toInt ∧ (nI i).toInt < 2) ∧ r = some (.int 0) ∧ WT m' ∧ Fx (RS [20]) m m')) 53 [(0, .ref (ad 187)), (2, .int (nI (71 * i + 57))), (3, .int (nI (s + 1)))] [] (uI m4 214 (71 * i + 57 + s) v) := fun v hv =>
          ih (s + 1) _ (by omega) (w4.n rfl) (f4.i rfl) (fun b q hb => (u_ne (fun z => hb z.1)).trans (c1 b q hb)) (fun q hq => (u_ne (by omega)).trans (c2 q hq)) (fun q hq => by
            by_cases hqs : q = s
            · rw [hqs, ← hv]; exact u_eq
            · exact (u_ne (by omega)).trans (c3 q (by omega))) (fun q hq => (u_ne (by omega)).trans (c5 q hq))
        exact ⟨fun z => absurd ((le_l 8 8 rfl (by decide) (by omega)).mp z) (by omega), fun _ => ⟨nat_in (by omega) (by decide), fun hz => ⟨nat_in (by omega) (by decide), nx 0 (by rw [if_pos hz])⟩, fun hz => ⟨nat_in (by omega) (by decide), nx 1 (by rw [if_neg hz])⟩⟩⟩
    exact L53 8 0 m3 rfl w3 f3 b1 (fun k hk => by rw [b2, if_pos (by omega), Nat.add_sub_cancel_left]; exact lV k) (fun q hq => absurd hq (Nat.not_lt_zero q)) (fun k hk => by rw [b2, if_neg (by omega)]; exact a4 214 (by decide) k)
  · refine ⟨0, by rw [if_neg hc], fun z => absurd rfl z, fun _ => Or.inr ⟨fun q => hc ⟨(fa_le _ _).mpr (by omega), (fa_le _ _).mpr (by omega)⟩, rfl, w0, Fx.rf.i rfl⟩⟩
def agM (m : Wm) (i : Nat) (m' : Wm) : Prop := WT m' ∧ Fx (RS [20, 24, 29, 46, 47, 49, 52]) m m' ∧ (∀ k, k < 57 → m'.1 (tgt k).1 (tgt k).2 = m.1 214 (71 * i + k)) ∧ (∀ s, s < 8 → m'.1 189 s = if m.1 214 (71 * i + 57 + s) = 1 then 1 else 0) ∧ (∀ k, k < 5 → m'.1 193 k = m.1 214 (71 * i + 65 + k)) ∧ m'.1 187 30 = 0 ∧
  m'.1 187 12 = if m.1 187 11 = 0 then 0 else m.1 214 (71 * i + 70) - m.1 214 (71 * i + 70) / m.1 187 11 * m.1 187 11
theorem e_againM {x : Int32} (w : WT m) : Ct ad μX12_again (d + 2) [.ref (ad 187), .int x] m (fun r m' => (∃ i, i < 2 ∧ x = nI i ∧ (m.1 215 i ≠ 0 ∧ m.1 216 i = m.1 187 53) ∧ r = some (.int 1) ∧ agM m i m') ∨ ((∀ i, i < 2 → x = nI i → ¬ (m.1 215 i ≠ 0 ∧ m.1 216 i = m.1 187 53)) ∧ r = some (.int 0) ∧ WT m' ∧ Fx (RS [20]) m m')) := by
  have w0 : WT (uI m 187 17 0) := w.n rfl
  have z0 : (0 : Int32).toInt = 0 := rfl
  have z1 : (1 : Int32).toInt = 1 := rfl
  have no : (∀ i, i < 2 → x = nI i → ¬ (m.1 215 i ≠ 0 ∧ m.1 216 i = m.1 187 53)) → (∃ i, i < 2 ∧ x = nI i ∧ (m.1 215 i ≠ 0 ∧ m.1 216 i = m.1 187 53) ∧ some (Value.int 0) = some (.int 1) ∧ agM m i (uI m 187 17 0)) ∨ ((∀ i, i < 2 → x = nI i → ¬ (m.1 215 i ≠ 0 ∧ m.1 216 i = m.1 187 53)) ∧ some (Value.int 0) = some (.int 0) ∧ WT (uI m 187 17 0) ∧ Fx (RS [20]) m (uI m 187 17 0)) := fun h => Or.inr ⟨h, rfl, w0, Fx.rf.i rfl⟩
  refine v_X12_again (d := d + 1) ((in_i (lo := 0) (hi := 1) rfl rfl).to ?_)
  rintro _ m' ⟨eq, rfl⟩
  obtain rfl := eq.symm
  by_cases hc : (0 : Int32) ≤ x ∧ x ≤ 1
  · have h0 := z_le hc.1
    have h1 := z_le hc.2
    obtain ⟨i, hi, rfl⟩ := two_of (x := x) (by omega) (by omega)
    have ii : ∀ i', i' < 2 → nI i = nI i' → i' = i := fun i' h1 h2 => ((nI_eq (a := i) (b := i') (by omega) (by omega)).mp h2).symm
    have e71 : (71 : Int32) * nI i = nI (71 * i) := l_mul 71 71 rfl i
    refine ⟨1, by rw [if_pos hc], fun z => absurd z (by decide), fun _ => ?_⟩
    rw [nI_clamp (by omega), e71, add_l 57 57 rfl]
    refine ⟨nat_in hi (by decide), fun hz => no (fun i' a b => ?_), fun hz => ⟨nat_in hi (by decide), fun ht => ?_, fun ht => no (fun i' a b => ?_)⟩⟩
    · rw [ii i' a b]; exact fun q => q.1 hz
    · refine (bringC (na := 142) rfl (by decide) (by omega) (by decide)).to ?_
      rintro _ m3 ⟨rfl, e3⟩
      refine ⟨rfl, ?_⟩
      have w3 : WT m3 := by
        subst e3
        exact w0.same (fun b k h => brM_out (fun j q => h (by have := (tgt_rg j).1; rw [q] at this; exact this)) (Nat.le_refl _)) (congrArg Prod.snd (brM_2 57))
      have f3 : Fx (RS [20, 24, 29, 46, 47, 49, 52]) m m3 := by
        subst e3
        refine ((Fx.rf (S := RS [20, 24, 29, 46, 47, 49, 52])).i (a := 187) (k := 17) (v := 0) rfl).tr (S' := RS [24, 49]) (fun b k h => ⟨brM_out (fun j q => h (by have := (tgt_rg j).2; rw [q] at this; exact this)) (Nat.le_refl _), by rw [brM_2 57], by rw [brM_2 57]⟩) (RS_sub rfl)
      have b1 : ∀ k, k < 57 → m3.1 (tgt k).1 (tgt k).2 = m.1 214 (71 * i + k) := fun k hk => by
        subst e3
        exact (brM_at hk (Nat.le_refl _)).trans (u_ne (by omega))
      have b2 : ∀ k, m3.1 214 k = m.1 214 k := fun k => f3.at (nRS (ρ := 40) rfl rfl)
      have b3 : m3.1 187 11 = m.1 187 11 := f3.at (nRS (ρ := 25) rfl rfl)
      have L98 : ∀ (j k : Nat) (m4 : Wm), k + j = 5 → WT m4 → Fx (RS [20, 24, 29, 46, 47, 49, 52]) m m4 → (∀ k, k < 57 → m4.1 (tgt k).1 (tgt k).2 = m.1 214 (71 * i + k)) → (∀ s, s < 8 → m4.1 189 s = if m.1 214 (71 * i + 57 + s) = 1 then 1 else 0) → (∀ q, q < k → m4.1 193 q = m.1 214 (71 * i + 65 + q)) →
          AW ad E0 μX12_again (d + 2) (fun r m' => (∃ i', i' < 2 ∧ nI i = nI i' ∧ (m.1 215 i' ≠ 0 ∧ m.1 216 i' = m.1 187 53) ∧ r = some (.int 1) ∧ agM m i' m') ∨ ((∀ i', i' < 2 → nI i = nI i' → ¬ (m.1 215 i' ≠ 0 ∧ m.1 216 i' = m.1 187 53)) ∧ r = some (.int 0) ∧ WT m' ∧ Fx (RS [20]) m m')) 98 [(0, .ref (ad 187)), (2, .int (nI (71 * i + 57 + 8))), (3, .int (nI k))] [] m4 := by
        intro j
        have tg : ∀ k, k < 57 → (tgt k).1 ≠ 193 ∧ (tgt k).1 ≠ 189 ∧ ¬ ((tgt k).1 = 187 ∧ ((tgt k).2 = 12 ∨ (tgt k).2 = 30)) := fun k hk => by
          have h : ∀ k : Fin 57, (tgt k.val).1 ≠ 193 ∧ (tgt k.val).1 ≠ 189 ∧ ¬ ((tgt k.val).1 = 187 ∧ ((tgt k.val).2 = 12 ∨ (tgt k.val).2 = 30)) := by decide +kernel
          exact h ⟨k, hk⟩
        induction j with
        | zero =>
          intro k m4 hk w4 f4 c1 c2 c3
          obtain rfl : k = 5 := hk
          have d2 : m4.1 214 (71 * i + 57 + 8 + 5) = m.1 214 (71 * i + 70) := f4.at (nRS (ρ := 40) rfl rfl)
          have d3 : m4.1 187 11 = m.1 187 11 := f4.at (nRS (ρ := 25) rfl rfl)
          refine g_X12_again_98 ?_
          rw [add_l 5 5 rfl, nI_clamp (by omega), d2, d3]
          have fin : ∀ v : Int32, (v = if m.1 187 11 = 0 then 0 else m.1 214 (71 * i + 70) - m.1 214 (71 * i + 70) / m.1 187 11 * m.1 187 11) → agM m i (uI (uI m4 187 12 v) 187 30 0) := fun v hv =>
            ⟨(w4.n rfl).t rfl (by decide) (by decide), (f4.i rfl).i rfl, fun k hk => (u_ne (fun q => (tg k hk).2.2 ⟨q.1, Or.inr q.2⟩)).trans ((u_ne (fun q => (tg k hk).2.2 ⟨q.1, Or.inl q.2⟩)).trans (c1 k hk)), fun s hs => (u_ne (by omega)).trans ((u_ne (by omega)).trans (c2 s hs)), fun q hq => (u_ne (by omega)).trans ((u_ne (by omega)).trans (c3 q hq)), u_eq, (u_ne (by omega)).trans (u_eq.trans hv)⟩
          exact ⟨fun _ => ⟨fun h11 => ⟨nat_in (by omega) (by decide), h11, Or.inl ⟨i, hi, rfl, ⟨hz, ht⟩, rfl, fin _ (by rw [if_neg h11])⟩⟩, fun h11 => Or.inl ⟨i, hi, rfl, ⟨hz, ht⟩, rfl, fin _ (by rw [if_pos h11])⟩⟩, fun z => absurd (by decide) z⟩
        | succ j ih =>
          intro k m4 hk w4 f4 c1 c2 c3
          have d2 : m4.1 214 (71 * i + 57 + 8 + k) = m.1 214 (71 * i + 57 + 8 + k) := f4.at (nRS (ρ := 40) rfl rfl)
          refine g_X12_again_98 ?_
          rw [nI_add, nI_1, nI_clamp (by omega), nI_clamp (by omega), d2]
          refine ⟨fun z => absurd ((le_l 5 5 rfl (by decide) (by omega)).mp z) (by omega), fun _ => ⟨nat_in (by omega) (by decide), nat_in (by omega) (by decide), ih (k + 1) _ (by omega) (w4.n rfl) (f4.i rfl) (fun q hq => (u_ne (fun z => (tg q hq).1 z.1)).trans (c1 q hq)) (fun s hs => (u_ne (by omega)).trans (c2 s hs)) (fun q hq => ?_)⟩⟩
          by_cases hqk : q = k
          · subst hqk
            have e : 71 * i + 65 + q = 71 * i + 57 + 8 + q := by omega
            rw [e]; exact u_eq
          · exact (u_ne (fun z => hqk z.2)).trans (c3 q (by omega))
      have L58 : ∀ (j s : Nat) (m4 : Wm), s + j = 8 → WT m4 → Fx (RS [20, 24, 29, 46, 47, 49, 52]) m m4 → (∀ k, k < 57 → m4.1 (tgt k).1 (tgt k).2 = m.1 214 (71 * i + k)) → (∀ q, q < s → m4.1 189 q = if m.1 214 (71 * i + 57 + q) = 1 then 1 else 0) →
          AW ad E0 μX12_again (d + 2) (fun r m' => (∃ i', i' < 2 ∧ nI i = nI i' ∧ (m.1 215 i' ≠ 0 ∧ m.1 216 i' = m.1 187 53) ∧ r = some (.int 1) ∧ agM m i' m') ∨ ((∀ i', i' < 2 → nI i = nI i' → ¬ (m.1 215 i' ≠ 0 ∧ m.1 216 i' = m.1 187 53)) ∧ r = some (.int 0) ∧ WT m' ∧ Fx (RS [20]) m m')) 58 [(0, .ref (ad 187)), (2, .int (nI (71 * i + 57))), (3, .int (nI s))] [] m4 := by
        intro j
        have tg : ∀ k, k < 57 → (tgt k).1 ≠ 189 := fun k hk => by
          have h : ∀ k : Fin 57, (tgt k.val).1 ≠ 189 := by decide +kernel
          exact h ⟨k, hk⟩
        induction j with
        | zero =>
          intro s m4 hs w4 f4 c1 c2
          obtain rfl : s = 8 := hs
          refine g_X12_again_58 ?_
          rw [add_l 8 8 rfl]
          exact ⟨fun _ => L98 5 0 m4 rfl w4 f4 c1 c2 (fun q hq => absurd hq (Nat.not_lt_zero q)), fun z => absurd (by decide) z⟩
        | succ j ih =>
          intro s m4 hs w4 f4 c1 c2
          have d2 : m4.1 214 (71 * i + 57 + s) = m.1 214 (71 * i + 57 + s) := f4.at (nRS (ρ := 40) rfl rfl)
          refine g_X12_again_58 ?_
          rw [nI_add, nI_1, nI_clamp (by omega), nI_clamp (by omega), d2]
          have nx : ∀ v : Int32, (v = if m.1 214 (71 * i + 57 + s) = 1 then 1 else 0) → AW ad E0 μX12_again (d + 2) (fun r m' => (∃ i', i' < 2 ∧ nI i = nI i' ∧ (m.1 215 i' ≠ 0 ∧ m.1 216 i' = m.1 187 53) ∧ r = some (.int 1) ∧ agM m i' m') ∨ ((∀ i', i' < 2 → nI i = nI i' → ¬ (m.1 215 i' ≠ 0 ∧ m.1 216 i' = m.1 187 53)) ∧ r = some (.int 0) ∧ WT m' ∧ Fx (RS [20]) m m')) 58 [(0, .ref (ad 187)), (2, .int (nI (71 * i + 57))), (3, .int (nI (s + 1)))] [] (uI m4 189 s v) := fun v hv =>
            ih (s + 1) _ (by omega) (w4.n rfl) (f4.i rfl) (fun q hq => (u_ne (fun z => tg q hq z.1)).trans (c1 q hq)) (fun q hq => by
              by_cases hqs : q = s
              · rw [hqs, ← hv]; exact u_eq
              · exact (u_ne (fun z => hqs z.2)).trans (c2 q (by omega)))
          exact ⟨fun z => absurd ((le_l 8 8 rfl (by decide) (by omega)).mp z) (by omega), fun _ => ⟨nat_in (by omega) (by decide), fun hz => ⟨nat_in (by omega) (by decide), nx 0 (by rw [if_neg hz])⟩, fun hz => ⟨nat_in (by omega) (by decide), nx 1 (by rw [if_pos hz])⟩⟩⟩
      exact L58 8 0 m3 rfl w3 f3 b1 (fun q hq => absurd hq (Nat.not_lt_zero q))
    · rw [ii i' a b]; exact fun q => ht q.2
  · refine ⟨0, by rw [if_neg hc], fun _ => no (fun i hi hx => absurd ?_ hc), fun z => absurd rfl z⟩
    have : x.toInt = i := by rw [hx, nI_toInt (by omega)]
    exact ⟨(fa_le _ _).mpr (by omega), (fa_le _ _).mpr (by omega)⟩
end KPM
end
section
/-! THE RULE'S TEXT, SIGN BY SIGN: is a thing wanted, how many digits stand, is there a comparison (this level first) -/
abbrev RuS : Type := Bool × Nat × List Bool
abbrev isDg (c : Int32) : Prop := 48 ≤ c ∧ c ≤ 57
abbrev isCm (c : Int32) : Prop := c = 60 ∨ c = 61 ∨ c = 62
abbrev isJn (c : Int32) : Prop := c = 42 ∨ c = 43 ∨ c = 45 ∨ c = 47
def rTop : List Bool → Option RuS
  | false :: r => some (true, 0, true :: r)
  | _ => none
def rPop : List Bool → Option RuS
  | _ :: g :: r => some (false, 0, g :: r)
  | _ => none
def rst (c : Int32) : RuS → Option RuS
  | (w, dg, fs) =>
    if isDg c then (if w = true then some (false, 1, fs) else if dg = 0 ∨ dg = 3 then none else some (false, dg + 1, fs))
    else if w = true then (if c = 45 then some (true, 0, fs) else if c = 40 then (if fs.length ≤ 4 then some (true, 0, false :: fs) else none) else if isLt c then some (false, 0, fs) else none)
    else if c = 41 then rPop fs
    else if isCm c then rTop fs
    else if isJn c then some (true, 0, fs)
    else none
def rok : RuS → Bool
  | (w, _, fs) => decide (w = false ∧ fs.length = 1)
section RST
variable {c : Int32} {dg : Nat} {fs r : List Bool} {f g : Bool}
theorem rst_d (h : isDg c) : rst c (true, dg, fs) = some (false, 1, fs) := by
  unfold rst; dsimp only; rw [if_pos h, if_pos rfl]
theorem rst_dn (h : isDg c) (h0 : dg = 0 ∨ dg = 3) : rst c (false, dg, fs) = none := by
  unfold rst; dsimp only; rw [if_pos h, if_neg (by decide), if_pos h0]
theorem rst_ds (h : isDg c) (h0 : ¬ (dg = 0 ∨ dg = 3)) : rst c (false, dg, fs) = some (false, dg + 1, fs) := by
  unfold rst; dsimp only; rw [if_pos h, if_neg (by decide), if_neg h0]
theorem rst_m : rst 45 (true, dg, fs) = some (true, 0, fs) := by
  unfold rst; dsimp only; rw [if_neg (by decide), if_pos rfl, if_pos rfl]
theorem rst_o (h : fs.length ≤ 4) : rst 40 (true, dg, fs) = some (true, 0, false :: fs) := by
  unfold rst; dsimp only; rw [if_neg (by decide), if_pos rfl, if_neg (by decide), if_pos rfl, if_pos h]
theorem rst_on (h : ¬ fs.length ≤ 4) : rst 40 (true, dg, fs) = none := by
  unfold rst; dsimp only; rw [if_neg (by decide), if_pos rfl, if_neg (by decide), if_pos rfl, if_neg h]
theorem isLt_ge (h : isLt c) : 97 ≤ c.toInt := by
  rcases h with h | rfl | rfl | rfl | rfl | rfl | rfl
  · exact z_le h.1
  all_goals decide
theorem rst_l (h : isLt c) : rst c (true, dg, fs) = some (false, 0, fs) := by
  have h9 := isLt_ge h
  have n1 : ¬ isDg c := fun q => by
    have q2 := z_le q.2
    have z : (57 : Int32).toInt = 57 := rfl
    omega
  have n2 : ¬ c = 45 := fun q => by rw [q] at h9; exact absurd h9 (by decide)
  have n3 : ¬ c = 40 := fun q => by rw [q] at h9; exact absurd h9 (by decide)
  unfold rst; dsimp only; rw [if_neg n1, if_pos rfl, if_neg n2, if_neg n3, if_pos h]
theorem rst_wn (h1 : ¬ isDg c) (h2 : c ≠ 45) (h3 : c ≠ 40) (h4 : ¬ isLt c) : rst c (true, dg, fs) = none := by
  unfold rst; dsimp only; rw [if_neg h1, if_pos rfl, if_neg h2, if_neg h3, if_neg h4]
theorem rst_p : rst 41 (false, dg, f :: g :: r) = some (false, 0, g :: r) := by
  unfold rst; dsimp only; rw [if_neg (by decide), if_neg (by decide), if_pos rfl]; rfl
theorem rst_p1 : rst 41 (false, dg, [f]) = none := by
  unfold rst; dsimp only; rw [if_neg (by decide), if_neg (by decide), if_pos rfl]; rfl
theorem rst_c (h : isCm c) : rst c (false, dg, false :: r) = some (true, 0, true :: r) := by
  rcases h with rfl | rfl | rfl <;> (unfold rst; dsimp only; rw [if_neg (by decide), if_neg (by decide), if_neg (by decide), if_pos (by decide)]; rfl)
theorem rst_cn (h : isCm c) : rst c (false, dg, true :: r) = none := by
  rcases h with rfl | rfl | rfl <;> (unfold rst; dsimp only; rw [if_neg (by decide), if_neg (by decide), if_neg (by decide), if_pos (by decide)]; rfl)
theorem rst_j (h : isJn c) : rst c (false, dg, fs) = some (true, 0, fs) := by
  rcases h with rfl | rfl | rfl | rfl <;> (unfold rst; dsimp only; rw [if_neg (by decide), if_neg (by decide), if_neg (by decide), if_neg (by decide), if_pos (by decide)])
theorem rst_n (h1 : ¬ isDg c) (h2 : c ≠ 41) (h3 : ¬ isCm c) (h4 : ¬ isJn c) : rst c (false, dg, fs) = none := by
  unfold rst; dsimp only; rw [if_neg h1, if_neg (by decide), if_neg h2, if_neg h3, if_neg h4]
theorem rst_no {w : Bool} {x : Int32} (hx : x.toInt < 0 ∨ 128 ≤ x.toInt) : rst x (w, dg, fs) = none := by
  have z48 : (48 : Int32).toInt = 48 := rfl
  have z57 : (57 : Int32).toInt = 57 := rfl
  have z97 : (97 : Int32).toInt = 97 := rfl
  have z100 : (100 : Int32).toInt = 100 := rfl
  have ne : ∀ t : Int32, 0 ≤ t.toInt → t.toInt ≤ 127 → ¬ x = t := fun t h0 h1 q => by rw [q] at hx; omega
  have n1 : ¬ isDg x := fun q => by have := z_le q.1; have := z_le q.2; omega
  have nl : ¬ isLt x := by
    rintro (q | q | q | q | q | q | q)
    · have := z_le q.1; have := z_le q.2; omega
    all_goals exact ne _ (by decide) (by decide) q
  cases w with
  | true => exact rst_wn n1 (ne _ (by decide) (by decide)) (ne _ (by decide) (by decide)) nl
  | false =>
    refine rst_n n1 (ne _ (by decide) (by decide)) ?_ ?_
    · rintro (q | q | q) <;> exact ne _ (by decide) (by decide) q
    · rintro (q | q | q | q) <;> exact ne _ (by decide) (by decide) q
end RST
/-! with the code (last first) and what waits (latest first) -/
def rkN (c : Int32) : Nat := if c = 42 ∨ c = 47 then 3 else if c = 43 ∨ c = 45 then 2 else if isCm c then 1 else if c = 256 then 4 else 0
abbrev XS : Type := RuS × List Int32 × List Int32
def relL (r : Nat) : List Int32 → List Int32 → List Int32 × List Int32
  | [], cd => (cd, [])
  | x :: wt, cd => if rkN x < r then (cd, x :: wt) else relL r wt ((1000 + x) :: cd)
def digL (v : Int32) : List Int32 → List Int32
  | x :: r => (x * 10 + v) :: r
  | [] => []
def xcd (c : Int32) (w : Bool) (cd wt : List Int32) : List Int32 × List Int32 :=
  if isDg c then (if w = true then ((c - 48) :: cd, wt) else (digL (c - 48) cd, wt))
  else if w = true then (if c = 45 then (cd, 256 :: wt) else if c = 40 then (cd, 40 :: wt) else ((1000 + c) :: cd, wt))
  else if c = 41 then ((relL 1 wt cd).1, (relL 1 wt cd).2.tail)
  else ((relL (rkN c) wt cd).1, c :: (relL (rkN c) wt cd).2)
def xst (c : Int32) (X : XS) : Option XS := (rst c X.1).map (fun S => (S, xcd c X.1.1 X.2.1 X.2.2))
def xok (X : XS) : Bool := rok X.1
section XST
variable {c : Int32} {dg : Nat} {fs r : List Bool} {f g w : Bool} {S S' : RuS} {cd wt : List Int32}
theorem xst_of (h : rst c S = some S') : xst c (S, cd, wt) = some (S', xcd c S.1 cd wt) := by unfold xst; dsimp only; rw [h]; rfl
theorem xst_none (h : rst c S = none) : xst c (S, cd, wt) = none := by unfold xst; dsimp only; rw [h]; rfl
theorem xst_ch {b : Int32} (X : XS) (h : CH c b) : xst c X = xst b X := by
  rcases h with ⟨-, -, rfl⟩ | ⟨a1, a2, a3⟩
  · rfl
  · obtain ⟨⟨w, dg, fs⟩, cd, wt⟩ := X
    rw [xst_none (rst_no (Or.inr a2)), xst_none (rst_no (Or.inl a1))]
theorem xs_d (h : isDg c) : xst c ((true, dg, fs), cd, wt) = some ((false, 1, fs), (c - 48) :: cd, wt) := by
  rw [xst_of (rst_d h)]; unfold xcd; rw [if_pos h, if_pos rfl]
theorem xs_ds {x : Int32} (h : isDg c) (h0 : ¬ (dg = 0 ∨ dg = 3)) : xst c ((false, dg, fs), x :: cd, wt) = some ((false, dg + 1, fs), (x * 10 + (c - 48)) :: cd, wt) := by
  rw [xst_of (rst_ds h h0)]; unfold xcd; dsimp only; rw [if_pos h, if_neg (by decide)]; rfl
theorem xs_m : xst 45 ((true, dg, fs), cd, wt) = some ((true, 0, fs), cd, 256 :: wt) := by
  rw [xst_of rst_m]; unfold xcd; rw [if_neg (by decide), if_pos rfl, if_pos rfl]
theorem xs_o (h : fs.length ≤ 4) : xst 40 ((true, dg, fs), cd, wt) = some ((true, 0, false :: fs), cd, 40 :: wt) := by
  rw [xst_of (rst_o h)]; unfold xcd; rw [if_neg (by decide), if_pos rfl, if_neg (by decide), if_pos rfl]
theorem isLt_n (h : isLt c) : ¬ isDg c ∧ ¬ c = 45 ∧ ¬ c = 40 := by
  have h9 := isLt_ge h
  refine ⟨fun q => ?_, fun q => ?_, fun q => ?_⟩
  · have q2 := z_le q.2
    have z : (57 : Int32).toInt = 57 := rfl
    omega
  · rw [q] at h9; exact absurd h9 (by decide)
  · rw [q] at h9; exact absurd h9 (by decide)
theorem xs_l (h : isLt c) : xst c ((true, dg, fs), cd, wt) = some ((false, 0, fs), (1000 + c) :: cd, wt) := by
  obtain ⟨n1, n2, n3⟩ := isLt_n h
  rw [xst_of (rst_l h)]; unfold xcd; rw [if_neg n1, if_pos rfl, if_neg n2, if_neg n3]
theorem xs_p : xst 41 ((false, dg, f :: g :: r), cd, wt) = some ((false, 0, g :: r), (relL 1 wt cd).1, (relL 1 wt cd).2.tail) := by
  rw [xst_of rst_p]; unfold xcd; dsimp only; rw [if_neg (by decide), if_neg (by decide), if_pos rfl]
theorem jn_n (h : isJn c ∨ isCm c) : ¬ isDg c ∧ ¬ c = 41 := by
  rcases h with (rfl | rfl | rfl | rfl) | (rfl | rfl | rfl) <;> decide
theorem xs_j (h : isJn c) : xst c ((false, dg, fs), cd, wt) = some ((true, 0, fs), (relL (rkN c) wt cd).1, c :: (relL (rkN c) wt cd).2) := by
  obtain ⟨n1, n2⟩ := jn_n (Or.inl h)
  rw [xst_of (rst_j h)]; unfold xcd; dsimp only; rw [if_neg n1, if_neg (by decide), if_neg n2]
theorem xs_c (h : isCm c) : xst c ((false, dg, false :: r), cd, wt) = some ((true, 0, true :: r), (relL (rkN c) wt cd).1, c :: (relL (rkN c) wt cd).2) := by
  obtain ⟨n1, n2⟩ := jn_n (Or.inr h)
  rw [xst_of (rst_c h)]; unfold xcd; dsimp only; rw [if_neg n1, if_neg (by decide), if_neg n2]
end XST
/-! what code comes to -/
def jnF (c a b : Int32) : Int32 :=
  if c = 60 then (if a < b then 1 else 0) else if c = 62 then (if b < a then 1 else 0) else if c = 61 then (if a = b then 1 else 0)
  else if c = 43 then a + b else if c = 45 then a - b else if c = 42 then a * b else if b = 0 then 0 else a / b
def bin2 (c : Int32) : List Int32 → Option (List Int32)
  | b :: a :: r => some (jnF c a b :: r)
  | _ => none
def neg1 : List Int32 → Option (List Int32)
  | a :: r => some ((-a) :: r)
  | [] => none
def evS (lt : Int32 → Int32) (x : Int32) (σ : List Int32) : Option (List Int32) :=
  if x < 1000 then some (x :: σ)
  else if rkN (x - 1000) = 0 then (if isLt (x - 1000) then some (lt (x - 1000) :: σ) else none)
  else if rkN (x - 1000) = 4 then neg1 σ
  else bin2 (x - 1000) σ
def evR (lt : Int32 → Int32) : List Int32 → List Int32 → Option (List Int32)
  | [], σ => some σ
  | x :: l, σ => match evR lt l σ with
    | none => none
    | some τ => evS lt x τ
def flL : List Int32 → List Int32 → List Int32
  | [], sg => sg
  | x :: pd, sg => flL pd ((1000 + x) :: sg)
def hLt (r : Nat) : List Int32 → Prop
  | [] => True
  | x :: _ => rkN x < r
section EVR
variable {lt : Int32 → Int32} {c : Int32}
theorem relL_fl {r : Nat} : ∀ (pd sg cd wt : List Int32), (∀ x, x ∈ pd → r ≤ rkN x) → hLt r wt → relL r (pd ++ wt) (sg ++ cd) = (flL pd sg ++ cd, wt) := by
  intro pd
  induction pd with
  | nil =>
    intro sg cd wt h hw
    cases wt with
    | nil => rfl
    | cons x wt =>
      show (if rkN x < r then (sg ++ cd, x :: wt) else relL r wt ((1000 + x) :: (sg ++ cd))) = _
      rw [if_pos (show rkN x < r from hw)]
      rfl
  | cons y pd ih =>
    intro sg cd wt h hw
    show (if rkN y < r then (sg ++ cd, y :: (pd ++ wt)) else relL r (pd ++ wt) ((1000 + y) :: (sg ++ cd))) = _
    have hy := h y (List.mem_cons.mpr (Or.inl rfl))
    rw [if_neg (by omega)]
    exact ih ((1000 + y) :: sg) cd wt (fun x hx => h x (List.mem_cons.mpr (Or.inr hx))) hw
theorem flL_app : ∀ (pd sg X : List Int32), flL pd (sg ++ X) = flL pd sg ++ X := by
  intro pd
  induction pd with
  | nil => intro sg X; rfl
  | cons y pd ih => intro sg X; exact ih ((1000 + y) :: sg) X
theorem flL_snoc : ∀ (pd sg : List Int32), flL (pd ++ [c]) sg = (1000 + c) :: flL pd sg := by
  intro pd
  induction pd with
  | nil => intro sg; rfl
  | cons y pd ih => intro sg; exact ih ((1000 + y) :: sg)
theorem evR_c {x : Int32} {l σ τ : List Int32} (h : evR lt l σ = some τ) : evR lt (x :: l) σ = evS lt x τ := by
  show (match evR lt l σ with | none => none | some τ => evS lt x τ) = _
  rw [h]
theorem evR_app {b σ τ : List Int32} (h1 : evR lt b σ = some τ) : ∀ (a υ : List Int32), evR lt a τ = some υ → evR lt (a ++ b) σ = some υ := by
  intro a
  induction a with
  | nil => intro υ h2; exact h1.trans h2
  | cons x a ih =>
    intro υ h2
    cases e : evR lt a τ with
    | none =>
      have h3 : evR lt (x :: a) τ = none := by
        show (match evR lt a τ with | none => none | some τ => evS lt x τ) = _
        rw [e]
      rw [h3] at h2
      cases h2
    | some τ' =>
      rw [evR_c e] at h2
      have h4 : evR lt (a ++ b) σ = some τ' := ih τ' e
      exact (evR_c h4).trans h2
theorem evS_n {x : Int32} {σ : List Int32} (h : x.toInt < (1000 : Int32).toInt) : evS lt x σ = some (x :: σ) := by
  unfold evS
  rw [if_pos ((fa_lt _ _).mpr h)]
theorem evS_l {σ : List Int32} (h : isLt c) : evS lt (1000 + c) σ = some (lt c :: σ) := by
  have e : (1000 : Int32) + c - 1000 = c := by rw [Int32.add_comm, Int32.add_sub_cancel]
  have hb := isLt_ge h
  have hu : c.toInt ≤ 127 := by
    rcases h with h | rfl | rfl | rfl | rfl | rfl | rfl
    · have := z_le h.2
      have z : (100 : Int32).toInt = 100 := rfl
      omega
    all_goals decide
  have ta := ti_addl (x := (1000 : Int32)) (y := c) (c := 1000) rfl (by omega)
  have n1 : ¬ (1000 : Int32) + c < 1000 := fun q => by have := y_ltr (n := 1000) rfl q; omega
  have r0 : rkN c = 0 := by
    have ne : ∀ t : Int32, t.toInt < 97 ∨ 127 < t.toInt → ¬ c = t := fun t ht q => by rw [q] at hb hu; omega
    unfold rkN
    rw [if_neg (fun q => q.elim (ne _ (by decide)) (ne _ (by decide))), if_neg (fun q => q.elim (ne _ (by decide)) (ne _ (by decide))), if_neg (fun q => q.elim (ne _ (by decide)) (fun q => q.elim (ne _ (by decide)) (ne _ (by decide)))), if_neg (ne _ (by decide))]
  unfold evS
  rw [if_neg n1, e, if_pos r0, if_pos h]
theorem evS_g {a : Int32} {σ : List Int32} : evS lt (1000 + 256) (a :: σ) = some ((-a) :: σ) := by
  unfold evS
  rw [if_neg (by decide), if_neg (by decide), if_pos (by decide)]
  rfl
theorem evS_j {a b : Int32} {σ : List Int32} (h : isJn c ∨ isCm c) : evS lt (1000 + c) (b :: a :: σ) = some (jnF c a b :: σ) := by
  rcases h with (rfl | rfl | rfl | rfl) | (rfl | rfl | rfl) <;> (unfold evS; rw [if_neg (by decide), if_neg (by decide), if_neg (by decide)]; rfl)
theorem rk_j (h : isJn c) : (c = 42 ∨ c = 47) ∧ rkN c = 3 ∨ (c = 43 ∨ c = 45) ∧ rkN c = 2 := by
  rcases h with rfl | rfl | rfl | rfl
  · exact Or.inl ⟨Or.inl rfl, by decide⟩
  · exact Or.inr ⟨Or.inl rfl, by decide⟩
  · exact Or.inr ⟨Or.inr rfl, by decide⟩
  · exact Or.inl ⟨Or.inr rfl, by decide⟩
theorem rk_c (h : isCm c) : rkN c = 1 := by rcases h with rfl | rfl | rfl <;> decide
/-- v is what was read from (cd, wt) to (cd', wt'): what still waits of it binds at least ρ -/
def rV (lt : Int32 → Int32) (v : Int32) (ρ : Nat) (cd wt cd' wt' : List Int32) : Prop := ∃ sg pd, cd' = sg ++ cd ∧ wt' = pd ++ wt ∧ (∀ x, x ∈ pd → ρ ≤ rkN x) ∧ ∀ σ, evR lt (flL pd sg) σ = some (v :: σ)
theorem rV.wk {v : Int32} {ρ ρ' : Nat} {cd wt cd' wt' : List Int32} (h : rV lt v ρ cd wt cd' wt') (hr : ρ' ≤ ρ) : rV lt v ρ' cd wt cd' wt' := by
  obtain ⟨sg, pd, h1, h2, h3, h4⟩ := h
  exact ⟨sg, pd, h1, h2, fun x hx => Nat.le_trans hr (h3 x hx), h4⟩
theorem rV.one {x v : Int32} {ρ : Nat} {cd wt : List Int32} (h : ∀ σ, evS lt x σ = some (v :: σ)) : rV lt v ρ cd wt (x :: cd) wt := ⟨[x], [], rfl, rfl, fun x hx => absurd hx (by simp), fun σ => (evR_c (l := []) rfl).trans (h σ)⟩
theorem rV.neg {v : Int32} {cd wt cd' wt' : List Int32} (h : rV lt v 4 cd (256 :: wt) cd' wt') : rV lt (-v) 4 cd wt cd' wt' := by
  obtain ⟨sg, pd, h1, h2, h3, h4⟩ := h
  refine ⟨sg, pd ++ [256], h1, by rw [h2, List.append_assoc]; rfl, fun x hx => ?_, fun σ => ?_⟩
  · rcases List.mem_append.mp hx with hx | hx
    · exact h3 x hx
    · rw [List.mem_singleton.mp hx]; decide
  · rw [flL_snoc, evR_c (h4 σ)]
    exact evS_g
theorem rV.par {v : Int32} {cd wt cd' wt' : List Int32} (h : rV lt v 1 cd (40 :: wt) cd' wt') : rV lt v 4 cd wt (relL 1 wt' cd').1 (relL 1 wt' cd').2.tail := by
  obtain ⟨sg, pd, h1, h2, h3, h4⟩ := h
  rw [h1, h2, relL_fl pd sg cd (40 :: wt) h3 (show rkN 40 < 1 by decide)]
  exact ⟨flL pd sg, [], rfl, rfl, fun x hx => absurd hx (by simp), h4⟩
theorem rV.op {a b : Int32} {ρ ρ2 : Nat} {cd wt cd1 wt1 cd2 wt2 : List Int32} (h1 : rV lt a ρ cd wt cd1 wt1) (hw : hLt ρ wt) (hj : isJn c ∨ isCm c) (hc : rkN c = ρ) (hρ : ρ ≤ ρ2)
    (h2 : rV lt b ρ2 (relL (rkN c) wt1 cd1).1 (c :: (relL (rkN c) wt1 cd1).2) cd2 wt2) : rV lt (jnF c a b) ρ cd wt cd2 wt2 := by
  obtain ⟨sg, pd, a1, a2, a3, a4⟩ := h1
  rw [hc, a1, a2, relL_fl pd sg cd wt a3 hw] at h2
  obtain ⟨sg2, pd2, b1, b2, b3, b4⟩ := h2
  refine ⟨sg2 ++ flL pd sg, pd2 ++ [c], by rw [b1, List.append_assoc], by rw [b2, List.append_assoc]; rfl, fun x hx => ?_, fun σ => ?_⟩
  · rcases List.mem_append.mp hx with hx | hx
    · exact Nat.le_trans hρ (b3 x hx)
    · rw [List.mem_singleton.mp hx, hc]; exact Nat.le_refl _
  · rw [flL_snoc, flL_app, evR_c (evR_app (a4 σ) _ _ (b4 (a :: σ)))]
    exact evS_j hj
end EVR
/-! the descent is a run of it -/
/-- R is where a part of the descent came out: a fault where the run ends, or a state of the run, and what was read -/
def rF (lt : Int32 → Int32) (tx : Nat → Int32) (e : Nat) (big : Bool) (O : Nat ⊕ XS) (cd wt : List Int32) (ρ lo : Nat) (G : List Bool → Int32 → Prop) (L : List Bool → Prop) (R : Int32 × Sp) : Prop :=
  (R.2.2 ≠ -1 → ∃ q, q ≤ e ∧ O = .inl q ∧ R.2.2 = nI q) ∧
  (R.2.2 = -1 → lo < R.2.1 ∧ R.2.1 ≤ e ∧ ∃ dg fs cd' wt', L fs ∧ rV lt R.1 ρ cd wt cd' wt' ∧ (R.2.1 < e → isDg (tx R.2.1) → dg = 0 ∨ dg = 3) ∧ (R.2.1 < e → G fs (tx R.2.1)) ∧ MO xst xok tx big (e - R.2.1) R.2.1 ((false, dg, fs), cd', wt') = O)
section RDS
variable {tx : Nat → Int32} {e : Nat} {big : Bool} {O : Nat ⊕ XS} {lo lo' ρ ρ' : Nat} {G G' : List Bool → Int32 → Prop} {L L' : List Bool → Prop} {R : Int32 × Sp} {lt : Int32 → Int32} {cd wt : List Int32}
theorem rF.flt {q : Nat} (he : e ≤ 80) (hq : q ≤ e) (hO : O = .inl q) (hs : R.2.2 = nI q) : rF lt tx e big O cd wt ρ lo G L R := ⟨fun _ => ⟨q, hq, hO, hs⟩, fun h => absurd (hs.symm.trans h) (fun z => m1_ne q (by omega) z.symm)⟩
theorem rF.wk (h : rF lt tx e big O cd wt ρ lo G L R) (hl : lo' ≤ lo) (hr : ρ' ≤ ρ) (hG : ∀ fs c, L fs → G fs c → G' fs c) (hL : ∀ fs, L fs → L' fs) : rF lt tx e big O cd wt ρ' lo' G' L' R := ⟨h.1, fun hs => by
  obtain ⟨a, b, dg, fs, cd', wt', c1, cv, c2, c3, c4⟩ := h.2 hs
  exact ⟨by omega, b, dg, fs, cd', wt', hL fs c1, cv.wk hr, c2, fun hp => hG fs _ c1 (c3 hp), c4⟩⟩
theorem num_rel : ∀ (k : Nat) (v : Int32) (p dg : Nat) (fs : List Bool), dg + k = 3 → 1 ≤ dg → p ≤ e → 0 ≤ v.toInt → ((k = 0 ∧ v.toInt ≤ 999) ∨ (k = 1 ∧ v.toInt ≤ 99) ∨ (k = 2 ∧ v.toInt ≤ 9)) → MO xst xok tx big (e - p) p ((false, dg, fs), v :: cd, wt) = O →
    p ≤ (numF tx e k v p).2 ∧ (numF tx e k v p).2 ≤ e ∧ (numF tx e k v p).1.toInt ≤ 999 ∧ ∃ dg', ((numF tx e k v p).2 < e → isDg (tx (numF tx e k v p).2) → dg' = 0 ∨ dg' = 3) ∧ MO xst xok tx big (e - (numF tx e k v p).2) (numF tx e k v p).2 ((false, dg', fs), (numF tx e k v p).1 :: cd, wt) = O := by
  intro k
  induction k with
  | zero =>
    intro v p dg fs hk h1 hp h0 hv hO
    exact ⟨Nat.le_refl _, hp, by show v.toInt ≤ 999; omega, dg, fun _ _ => Or.inr (by omega), hO⟩
  | succ k ih =>
    intro v p dg fs hk h1 hp h0 hv hO
    have e0 : numF tx e (k + 1) v p = if 48 ≤ hrF tx e p ∧ hrF tx e p ≤ 57 then numF tx e k (10 * v + hrF tx e p - 48) (p + 1) else (v, p) := rfl
    rw [e0]
    by_cases hd : 48 ≤ hrF tx e p ∧ hrF tx e p ≤ 57
    · rw [if_pos hd]
      have hlt := dig_lt hd.1
      have hd2 : isDg (tx p) := by rw [hr_in hlt] at hd; exact hd
      rw [hr_in hlt]
      have q1 := y_lel (n := 48) rfl hd2.1
      have q2 := y_ler (n := 57) rfl hd2.2
      have z48 : (48 : Int32).toInt = 48 := rfl
      have t1 := ti_mulc (y := (10 : Int32)) (x := v) (c := 10) rfl (by omega)
      have t2 := ti_add (x := (10 : Int32) * v) (y := tx p) (by omega)
      have t3 := ti_sub (x := (10 : Int32) * v + tx p) (y := (48 : Int32)) (by omega)
      have ev : v * 10 + (tx p - 48) = 10 * v + tx p - 48 := by
        have u1 := ti_sub (x := tx p) (y := (48 : Int32)) (by omega)
        have u2 := ti_mulr (y := (10 : Int32)) (x := v) (c := 10) rfl (by omega)
        have u3 := ti_add (x := v * (10 : Int32)) (y := tx p - 48) (by omega)
        exact (fa_eq _ _).mpr (by omega)
      obtain ⟨a, b, b2, c⟩ := ih (10 * v + tx p - 48) (p + 1) (dg + 1) fs (by omega) (by omega) (by omega) (by omega) (by omega) (by rw [← hO, MO_ss hlt (xs_ds hd2 (by omega)), ev])
      exact ⟨by omega, b, b2, c⟩
    · rw [if_neg hd]
      exact ⟨Nat.le_refl _, hp, by show v.toInt ≤ 999; omega, dg, fun hlt q => absurd (by rw [hr_in hlt]; exact q) hd, hO⟩
theorem loop_rel {c1 c2 : Int32} {op : Bool → Int32 → Int32 → Int32} {g : Sp → Int32 × Sp} {fs : List Bool} (h1 : isJn c1) (h2 : isJn c2) (k1 : rkN c1 = ρ) (k2 : rkN c2 = ρ) (hop : ∀ c a b, c = c1 ∨ c = c2 → op (decide (c = c1)) a b = jnF c a b) (hw : hLt ρ wt)
    (hg : ∀ p cd' wt', hLt (ρ + 1) wt' → lo < p → p ≤ e → MO xst xok tx big (e - p) p ((true, 0, fs), cd', wt') = O → rF lt tx e big O cd' wt' (ρ + 1) p G (fun r => r = fs) (g (p, -1))) :
    ∀ (k : Nat) (acc : Int32) (s : Sp), rF lt tx e big O cd wt ρ lo G (fun r => r = fs) (acc, s) → (s.2 = -1 → e - s.1 < k) → rF lt tx e big O cd wt ρ lo (fun r c => G r c ∧ c ≠ c1 ∧ c ≠ c2) (fun r => r = fs) (loopF tx e c1 c2 op g k acc s) := by
  have n1 : c1 ≠ -1 := by rcases h1 with rfl | rfl | rfl | rfl <;> decide
  have n2 : c2 ≠ -1 := by rcases h2 with rfl | rfl | rfl | rfl <;> decide
  intro k
  induction k with
  | zero =>
    intro acc s h hk
    exact ⟨h.1, fun hs => absurd (hk hs) (Nat.not_lt_zero _)⟩
  | succ k ih =>
    intro acc s h hk
    have e0 : loopF tx e c1 c2 op g (k + 1) acc s = if s.2 = -1 ∧ (hrF tx e s.1 = c1 ∨ hrF tx e s.1 = c2) then loopF tx e c1 c2 op g k (op (decide (hrF tx e s.1 = c1)) acc (g (s.1 + 1, s.2)).1) (g (s.1 + 1, s.2)).2 else (acc, s) := rfl
    rw [e0]
    by_cases hc : s.2 = -1 ∧ (hrF tx e s.1 = c1 ∨ hrF tx e s.1 = c2)
    · rw [if_pos hc]
      obtain ⟨hs, hc⟩ := hc
      have hlt : s.1 < e := by
        by_cases q : s.1 < e
        · exact q
        · rw [hr_out q] at hc
          rcases hc with z | z
          · exact absurd z.symm n1
          · exact absurd z.symm n2
      rw [hr_in hlt] at hc ⊢
      have hj : isJn (tx s.1) := by rcases hc with z | z <;> (rw [z]; assumption)
      have hk1 : rkN (tx s.1) = ρ := by rcases hc with z | z <;> (rw [z]; assumption)
      obtain ⟨a, b, dg, fs', cd1, wt1, hfs, hV, -, -, hO⟩ := h.2 hs
      have hfs' : fs' = fs := hfs
      subst hfs'
      have hO' : MO xst xok tx big (e - (s.1 + 1)) (s.1 + 1) ((true, 0, fs'), (relL (rkN (tx s.1)) wt1 cd1).1, tx s.1 :: (relL (rkN (tx s.1)) wt1 cd1).2) = O := by rw [← hO]; exact (MO_ss hlt (xs_j hj)).symm
      have r := hg (s.1 + 1) _ _ (show hLt (ρ + 1) (tx s.1 :: (relL (rkN (tx s.1)) wt1 cd1).2) from (show rkN (tx s.1) < ρ + 1 by omega)) (show lo < s.1 + 1 by have : lo < s.1 := a; omega) (by omega) hO'
      rw [hs]
      refine ih _ _ ⟨r.1, fun hs2 => ?_⟩ (fun hs2 => ?_)
      · obtain ⟨a', b', dg', fs2, cd2, wt2, c1', cv, c2', c3, c4⟩ := r.2 hs2
        have a2 : lo < s.1 := a
        have a3 : s.1 + 1 < (g (s.1 + 1, -1)).2.1 := a'
        exact ⟨show lo < (g (s.1 + 1, -1)).2.1 by omega, b', dg', fs2, cd2, wt2, c1', by rw [hop _ _ _ hc]; exact hV.op hw (Or.inl hj) hk1 (Nat.le_succ _) cv, c2', c3, c4⟩
      · have := (r.2 hs2).1
        have := hk hs
        omega
    · rw [if_neg hc]
      refine ⟨h.1, fun hs => ?_⟩
      obtain ⟨a, b, dg, fs', cd1, wt1, c1', cv, c2', c3, c4⟩ := h.2 hs
      exact ⟨a, b, dg, fs', cd1, wt1, c1', cv, c2', fun hlt => ⟨c3 hlt, fun q => hc ⟨hs, Or.inl (by rw [hr_in hlt]; exact q)⟩, fun q => hc ⟨hs, Or.inr (by rw [hr_in hlt]; exact q)⟩⟩, c4⟩
/-- what may stand behind a comparison's level -/
def gE (fs : List Bool) (c : Int32) : Prop := ¬ isJn c ∧ (isCm c → fs.head? = some true)
theorem rst_end {c : Int32} {dg : Nat} {fs : List Bool} (hd : isDg c → dg = 0 ∨ dg = 3) (hG : gE fs c) (h41 : c ≠ 41) : rst c (false, dg, fs) = none := by
  by_cases h1 : isDg c
  · exact rst_dn h1 (hd h1)
  · by_cases h3 : isCm c
    · have := hG.2 h3
      cases fs with
      | nil => cases this
      | cons f r =>
        have hf : f = true := Option.some.inj this
        rw [hf]
        exact rst_cn h3
    · exact rst_n h1 h41 h3 hG.1
theorem hLt.wk {r r' : Nat} {w : List Int32} (h : hLt r w) (hr : r ≤ r') : hLt r' w := by
  cases w with
  | nil => trivial
  | cons x w => exact Nat.lt_of_lt_of_le h hr
set_option maxHeartbeats 1000000 in
theorem des_rel (he : e ≤ 80) : ∀ n : Nat,
    (∀ dp p fs cd wt O, dp ≤ 4 → fs.length = dp + 1 → p ≤ e → 4 * (e - p) + 1 ≤ n → MO xst xok tx big (e - p) p ((true, 0, fs), cd, wt) = O → rF lt tx e big O cd wt 4 p (fun _ _ => True) (fun r => r = fs) (prF tx e lt n 0 dp (p, -1))) ∧
    (∀ dp p fs cd wt O, dp ≤ 4 → fs.length = dp + 1 → p ≤ e → 4 * (e - p) + 2 ≤ n → hLt 3 wt → MO xst xok tx big (e - p) p ((true, 0, fs), cd, wt) = O → rF lt tx e big O cd wt 3 p (fun _ c => c ≠ 42 ∧ c ≠ 47) (fun r => r = fs) (prF tx e lt n 1 dp (p, -1))) ∧
    (∀ dp p fs cd wt O, dp ≤ 4 → fs.length = dp + 1 → p ≤ e → 4 * (e - p) + 3 ≤ n → hLt 2 wt → MO xst xok tx big (e - p) p ((true, 0, fs), cd, wt) = O → rF lt tx e big O cd wt 2 p (fun _ c => ¬ isJn c) (fun r => r = fs) (prF tx e lt n 2 dp (p, -1))) ∧
    (∀ dp p r cd wt O, dp ≤ 4 → (false :: r).length = dp + 1 → p ≤ e → 4 * (e - p) + 4 ≤ n → hLt 1 wt → MO xst xok tx big (e - p) p ((true, 0, false :: r), cd, wt) = O → rF lt tx e big O cd wt 1 p gE (fun fs => ∃ f, fs = f :: r) (prF tx e lt n 3 dp (p, -1))) := by
  intro n
  induction n with
  | zero => exact ⟨fun _ _ _ _ _ _ _ _ _ h => by omega, fun _ _ _ _ _ _ _ _ _ h => by omega, fun _ _ _ _ _ _ _ _ _ h => by omega, fun _ _ _ _ _ _ _ _ _ h => by omega⟩
  | succ n ih =>
    obtain ⟨i0, i1, i2, i3⟩ := ih
    refine ⟨fun dp p fs cd wt O hdp hf hp hn hO => ?_, fun dp p fs cd wt O hdp hf hp hn hw hO => ?_, fun dp p fs cd wt O hdp hf hp hn hw hO => ?_, fun dp p r cd wt O hdp hf hp hn hw hO => ?_⟩
    · -- a thing
      have e0 : prF tx e lt (n + 1) 0 dp (p, -1) = thgF tx e lt (prF tx e lt n 0 dp) (prF tx e lt n 3 (dp + 1)) dp (p, -1) := rfl
      rw [e0]
      unfold thgF
      dsimp only
      by_cases hlt : p < e
      · rw [hr_in hlt]
        by_cases c45 : tx p = 45
        · rw [if_pos ((pass_iff (by decide)).mpr ⟨hlt, c45⟩)]
          have r := i0 dp (p + 1) fs cd (256 :: wt) O hdp hf (by omega) (by omega) (by rw [← hO]; exact (MO_ss hlt (by rw [c45]; exact xs_m)).symm)
          refine ⟨r.1, fun hs => ?_⟩
          obtain ⟨a, b, dg, fs', cd', wt', c1, cv, c2, c3, c4⟩ := r.2 hs
          exact ⟨by dsimp only at a ⊢; omega, b, dg, fs', cd', wt', c1, cv.neg, c2, c3, c4⟩
        · rw [if_neg (fun q => c45 ((pass_iff (by decide)).mp q).2), if_neg (c := ¬ ((-1 : Int32) = -1)) (fun h => h rfl)]
          by_cases c40 : tx p = 40
          · by_cases hd4 : dp < 4
            · rw [if_pos ⟨c40, hd4⟩]
              have r := i3 (dp + 1) (p + 1) fs cd (40 :: wt) O (by omega) (by rw [List.length_cons, hf]) (by omega) (by omega) (show rkN 40 < 1 by decide) (by rw [← hO]; exact (MO_ss hlt (by rw [c40]; exact xs_o (by omega))).symm)
              generalize prF tx e lt n 3 (dp + 1) (p + 1, -1) = R at r ⊢
              obtain ⟨v, p2, w⟩ := R
              by_cases hw : w = -1
              · subst hw
                obtain ⟨a, b, dg, fs', cd', wt', ⟨f, rfl⟩, cv, c2, c3, c4⟩ := r.2 rfl
                dsimp only at a b c2 c3 c4 cv
                obtain ⟨g, r', rfl⟩ : ∃ g r', fs = g :: r' := by
                  cases fs with
                  | nil => exact absurd hf (by simp)
                  | cons g r' => exact ⟨g, r', rfl⟩
                by_cases h41 : p2 < e ∧ tx p2 = 41
                · have e1 : needF tx e 41 (p2, -1) = (p2 + 1, -1) := if_pos ((pass_iff (by decide)).mpr h41)
                  dsimp only
                  rw [e1]
                  exact ⟨fun h => absurd rfl h, fun _ => ⟨by dsimp only; omega, by dsimp only; omega, 0, g :: r', _, _, rfl, cv.par, fun _ _ => Or.inl rfl, fun _ => trivial, by rw [← c4]; exact (MO_ss h41.1 (by rw [h41.2]; exact xs_p)).symm⟩⟩
                · have e1 : needF tx e 41 (p2, -1) = (p2, nI p2) := by
                    have h0 : ¬ passF tx e 41 (p2, -1) = true := fun q => h41 ((pass_iff (by decide)).mp q)
                    unfold needF fltF
                    rw [if_neg h0, if_pos rfl]
                  dsimp only
                  rw [e1]
                  refine rF.flt he b ?_ rfl
                  rw [← c4]
                  refine MO_ff (fun q => xst_none (rst_end (c2 q) (c3 q) (fun z => h41 ⟨q, z⟩))) (fun _ => ?_)
                  exact decide_eq_false (p := false = false ∧ (f :: g :: r').length = 1) (fun q => by have := q.2; simp at this)
              · obtain ⟨q, hq, hO', hw'⟩ := r.1 hw
                have e1 : needF tx e 41 (p2, w) = (p2, w) := by
                  have h0 : ¬ passF tx e 41 (p2, w) = true := pass_d hw
                  unfold needF fltF
                  rw [if_neg h0, if_neg hw]
                dsimp only
                rw [e1]
                exact rF.flt he hq hO' hw'
            · rw [if_neg (fun q => hd4 q.2), if_neg (by rw [c40]; decide), if_neg (by rw [c40]; decide)]
              refine rF.flt he hp ?_ (show (fltF (nI p) (p, -1)).2 = nI p from congrArg Prod.snd (if_pos rfl))
              rw [← hO]
              refine MO_ff (fun _ => by rw [c40]; exact xst_none (rst_on (by omega))) (fun _ => rfl)
          · rw [if_neg (fun q => c40 q.1)]
            by_cases hd : isDg (tx p)
            · rw [if_pos hd]
              have e1 : numF tx e 3 0 p = numF tx e 2 (10 * 0 + hrF tx e p - 48) (p + 1) := by
                show (if 48 ≤ hrF tx e p ∧ hrF tx e p ≤ 57 then numF tx e 2 (10 * 0 + hrF tx e p - 48) (p + 1) else (0, p)) = _
                rw [if_pos (by rw [hr_in hlt]; exact hd)]
              rw [e1, hr_in hlt]
              have q1 := y_lel (n := 48) rfl hd.1
              have q2 := y_ler (n := 57) rfl hd.2
              have z48 : (48 : Int32).toInt = 48 := rfl
              have t1 := ti_sub (x := tx p) (y := (48 : Int32)) (by omega)
              have ev : 10 * 0 + tx p - 48 = tx p - 48 := by
                have t2 := ti_addl (x := (10 : Int32) * 0) (y := tx p) (c := 0) rfl (by omega)
                have t3 := ti_sub (x := (10 : Int32) * 0 + tx p) (y := (48 : Int32)) (by omega)
                exact (fa_eq _ _).mpr (by omega)
              rw [ev]
              obtain ⟨a, b, b2, dg, c, c4⟩ := num_rel (tx := tx) (e := e) (big := big) (O := O) (cd := cd) (wt := wt) 2 (tx p - 48) (p + 1) 1 fs (by decide) (by decide) (by omega) (by omega) (by omega) (by rw [← hO]; exact (MO_ss hlt (xs_d hd)).symm)
              exact ⟨fun h => absurd rfl h, fun _ => ⟨by dsimp only; omega, b, dg, fs, _, _, rfl, rV.one (fun σ => evS_n (by have z : (1000 : Int32).toInt = 1000 := rfl; dsimp only; omega)), c, fun _ => trivial, c4⟩⟩
            · rw [if_neg hd]
              by_cases hl : isLt (tx p)
              · rw [if_pos hl]
                exact ⟨fun h => absurd rfl h, fun _ => ⟨by dsimp only; omega, by dsimp only; omega, 0, fs, _, _, rfl, rV.one (fun σ => evS_l hl), fun _ _ => Or.inl rfl, fun _ => trivial, by rw [← hO]; exact (MO_ss hlt (xs_l hl)).symm⟩⟩
              · rw [if_neg hl]
                refine rF.flt he hp ?_ (show (fltF (nI p) (p, -1)).2 = nI p from congrArg Prod.snd (if_pos rfl))
                rw [← hO]
                exact MO_ff (fun _ => xst_none (rst_wn hd c45 c40 hl)) (fun _ => rfl)
      · rw [hr_out hlt, if_neg (fun q => hlt ((pass_iff (by decide)).mp q).1), if_neg (c := ¬ ((-1 : Int32) = -1)) (fun h => h rfl), if_neg (fun q => absurd q.1 (by decide)), if_neg (by decide), if_neg (by decide)]
        refine rF.flt he hp ?_ (show (fltF (nI p) (p, -1)).2 = nI p from congrArg Prod.snd (if_pos rfl))
        rw [← hO]
        exact MO_ff (fun q => absurd q hlt) (fun _ => rfl)
    · -- a product
      have e0 : prF tx e lt (n + 1) 1 dp (p, -1) = loopF tx e 42 47 opM (prF tx e lt n 0 dp) 81 (prF tx e lt n 0 dp (p, -1)).1 (prF tx e lt n 0 dp (p, -1)).2 := rfl
      rw [e0]
      have r := i0 dp p fs cd wt O hdp hf hp (by omega) hO
      refine (loop_rel (ρ := 3) (Or.inl rfl) (Or.inr (Or.inr (Or.inr rfl))) (by decide) (by decide) (fun c a b h => ?_) hw (fun q cd' wt' _ h1 h2 hO2 => i0 dp q fs cd' wt' O hdp hf h2 (by omega) hO2) 81 _ _ (r.wk (Nat.le_refl _) (by decide) (fun _ _ _ h => h) (fun _ h => h)) (fun hs => by have := (r.2 hs).1; omega)).wk (Nat.le_refl _) (Nat.le_refl _) (fun _ _ _ h => h.2) (fun _ h => h)
      rcases h with rfl | rfl
      · rfl
      · rfl
    · -- a sum
      have e0 : prF tx e lt (n + 1) 2 dp (p, -1) = loopF tx e 43 45 opA (prF tx e lt n 1 dp) 81 (prF tx e lt n 1 dp (p, -1)).1 (prF tx e lt n 1 dp (p, -1)).2 := rfl
      rw [e0]
      have r := i1 dp p fs cd wt O hdp hf hp (by omega) (hw.wk (by decide)) hO
      refine (loop_rel (ρ := 2) (Or.inr (Or.inl rfl)) (Or.inr (Or.inr (Or.inl rfl))) (by decide) (by decide) (fun c a b h => ?_) hw (fun q cd' wt' hw' h1 h2 hO2 => i1 dp q fs cd' wt' O hdp hf h2 (by omega) hw' hO2) 81 _ _ (r.wk (Nat.le_refl _) (by decide) (fun _ _ _ h => h) (fun _ h => h)) (fun hs => by have := (r.2 hs).1; omega)).wk (Nat.le_refl _) (Nat.le_refl _) (fun _ c _ h => ?_) (fun _ h => h)
      · rcases h with rfl | rfl
        · rfl
        · rfl
      · obtain ⟨⟨h42, h47⟩, h43, h45⟩ := h
        rintro (q | q | q | q)
        · exact h42 q
        · exact h43 q
        · exact h45 q
        · exact h47 q
    · -- what is compared
      have e0 : prF tx e lt (n + 1) 3 dp (p, -1) = cmpF tx e (prF tx e lt n 2 dp) (prF tx e lt n 2 dp (p, -1)) := rfl
      rw [e0]
      have r1 := i2 dp p (false :: r) cd wt O hdp hf hp (by omega) (hw.wk (by decide)) hO
      generalize prF tx e lt n 2 dp (p, -1) = R at r1 ⊢
      obtain ⟨v, p2, w⟩ := R
      by_cases hm : w = -1
      · subst hm
        obtain ⟨a, b, dg, fs', cd1, wt1, hfs, cv, c2, c3, c4⟩ := r1.2 rfl
        have hfs' : fs' = false :: r := hfs
        subst hfs'
        dsimp only at a b c2 c3 c4 cv
        have go : ∀ c : Int32, isCm c → p2 < e → tx p2 = c → ∀ R2, R2 = (jnF c v (prF tx e lt n 2 dp (p2 + 1, -1)).1, (prF tx e lt n 2 dp (p2 + 1, -1)).2) → rF lt tx e big O cd wt 1 p gE (fun fs => ∃ f, fs = f :: r) R2 := by
          rintro c hc hlt htx R2 rfl
          have r2 := i2 dp (p2 + 1) (true :: r) _ _ O hdp hf (by omega) (by omega) (show hLt 2 (c :: (relL (rkN c) wt1 cd1).2) from show rkN c < 2 by rw [rk_c hc]; decide) (by rw [← c4]; exact (MO_ss hlt (by rw [htx]; exact xs_c hc)).symm)
          refine ⟨r2.1, fun hs => ?_⟩
          obtain ⟨a', b', dg', fs2, cd2, wt2, hf2, cv2, d2, d3, d4⟩ := r2.2 hs
          refine ⟨by dsimp only; omega, b', dg', fs2, cd2, wt2, ⟨true, hf2⟩, (cv.wk (by decide)).op hw (Or.inr hc) (rk_c hc) (by decide) cv2, d2, fun hp2 => ⟨d3 hp2, fun _ => by rw [show fs2 = true :: r from hf2]; rfl⟩, d4⟩
        unfold cmpF
        dsimp only
        by_cases h1 : passF tx e 60 (p2, -1) = true
        · rw [if_pos h1]
          obtain ⟨q1, q2⟩ := (pass_iff (by decide)).mp h1
          exact go 60 (Or.inl rfl) q1 q2 _ rfl
        · rw [if_neg h1]
          by_cases h2 : passF tx e 62 (p2, -1) = true
          · rw [if_pos h2]
            obtain ⟨q1, q2⟩ := (pass_iff (by decide)).mp h2
            exact go 62 (Or.inr (Or.inr rfl)) q1 q2 _ rfl
          · rw [if_neg h2]
            by_cases h3 : passF tx e 61 (p2, -1) = true
            · rw [if_pos h3]
              obtain ⟨q1, q2⟩ := (pass_iff (by decide)).mp h3
              exact go 61 (Or.inr (Or.inl rfl)) q1 q2 _ rfl
            · rw [if_neg h3]
              refine ⟨fun h => absurd rfl h, fun _ => ⟨a, b, dg, false :: r, cd1, wt1, ⟨false, rfl⟩, cv.wk (by decide), c2, fun q => ⟨c3 q, fun z => ?_⟩, c4⟩⟩
              rcases z with z | z | z
              · exact absurd ((pass_iff (by decide)).mpr ⟨q, z⟩) h1
              · exact absurd ((pass_iff (by decide)).mpr ⟨q, z⟩) h3
              · exact absurd ((pass_iff (by decide)).mpr ⟨q, z⟩) h2
      · obtain ⟨q, hq, hO', hw'⟩ := r1.1 hm
        unfold cmpF
        dsimp only
        rw [if_neg (pass_d hm), if_neg (pass_d hm), if_neg (pass_d hm)]
        exact rF.flt he hq hO' hw'
end RDS
end
section
/-! THE RULE: whether the model takes it -/
section RUE
variable {ad : Nat → Nat} {d : Nat} {m : Wm}
def ruM (m : Wm) (t : Nat) (X : Sp) (r : Option Value) (m' : Wm) : Prop := WT m' ∧ Fx (RS [20, 21, 22, 48, 28]) m m' ∧ (m'.1 187 14).toInt = 0 ∧
  (t ≠ 0 → X.2 ≠ -1 → r = some (.int (-1 - X.2)) ∧ Fx (RS [20, 21, 22, 28]) m m') ∧ (t ≠ 0 → X.2 = -1 → X.1 < t → r = some (.int (-1 - nI X.1)) ∧ Fx (RS [20, 21, 22, 28]) m m') ∧ ((t = 0 ∨ (X.2 = -1 ∧ ¬ X.1 < t)) → r = some (.int 0) ∧ m'.1 187 27 = nI t ∧ ∀ k, k < t → m'.1 200 k = vp_nar .byte (m.1 195 k))
theorem e_ruleM {t : Nat} (w : WT m) (ht : m.1 187 14 = nI t) (ht80 : t ≤ 80) : Ct ad μX12_rule (d + 168) [.ref (ad 187)] m (ruM m t (prF (m.1 195) (minT t 40) (fun _ => 0) 164 3 0 (0, -1)).2) := by
  have w0 : WT (uI m 187 17 0) := w.n rfl
  have A := pa_text (n := t) (t := 40) (by omega) (by decide)
  have he40 : minT t 40 ≤ 40 := by unfold minT; split <;> omega
  refine v_X12_rule (d := d + 167) ((begin_ok (na := 80) rfl).to ?_)
  rintro _ m1 ⟨rfl, e1⟩
  have ety' : (uI m 187 17 0).1 187 14 = nI t := ht
  rw [ety'] at e1 ⊢
  have e1' : m1 = bgM (uI m 187 17 0) 195 (nI t) (nI 40) := e1
  subst e1'
  clear e1
  have f1 : Fx (RS [22]) (uI m 187 17 0) (bgM (uI m 187 17 0) 195 (nI t) (nI 40)) := bg_fx
  have P1 : PS 195 t 40 (minT t 40) ((uI m 187 17 0).1 195) 0 (-1) (bgM (uI m 187 17 0) 195 (nI t) (nI 40)) := bg_ps (by omega) (by decide)
  have w1 := w0.fx f1
  generalize bgM (uI m 187 17 0) 195 (nI t) (nI 40) = mb at f1 P1 w1 ⊢
  have w2 : WT (uI (uI mb 187 14 0) 187 28 (-1)) := (w1.t rfl (by decide) (by decide)).t rfl (by decide) (by decide)
  have P2 : PS 195 t 40 (minT t 40) (m.1 195) 0 (-1) (uI (uI mb 187 14 0) 187 28 (-1)) := by
    obtain ⟨b1, b2, b3, b4, b5, b6, b7⟩ := P1
    exact ⟨b1, b2, b3, b4, b5, b6, fun k hk => b7 k hk⟩
  have F2 : Fx (RS [20, 21, 22, 28]) m (uI (uI mb 187 14 0) 187 28 (-1)) := ((((Fx.rf (S := RS [20, 21, 22, 28]) (m := m)).i (a := 187) (k := 17) (v := 0) rfl).tr f1 (RS_sub rfl)).i rfl).i rfl
  have z14 : ((uI (uI mb 187 14 0) 187 28 (-1)).1 187 14).toInt = 0 := rfl
  have En : EN ad (fun _ => 0) (uI (uI mb 187 14 0) 187 28 (-1)) := Or.inl ⟨rfl, fun _ => rfl⟩
  generalize uI (uI mb 187 14 0) 187 28 (-1) = mc at w2 P2 F2 z14 En ⊢
  have cp : ∀ X : Sp, (t = 0 ∨ (X.2 = -1 ∧ ¬ X.1 < t)) → t ≤ 40 → ∀ (j x2 : Nat) (m3 : Wm), x2 + j = t → WT m3 → Fx (RS [20, 21, 22, 48, 28]) m m3 → (m3.1 187 14).toInt = 0 → (∀ k, k < t → m3.1 195 k = m.1 195 k) → (∀ k, k < x2 → m3.1 200 k = vp_nar .byte (m.1 195 k)) → AW ad E0 μX12_rule (d + 167 + 1) (ruM m t X) 73 [(0, .ref (ad 187)), (1, .int (nI t)), (2, .int (nI x2))] [] m3 := by
    intro X hX h40 j
    have tt : (nI t).toInt = (t : Int) := nI_toInt (by omega)
    induction j with
    | zero =>
      intro x2 m3 hx wt3 f3 h14 h195 h200
      refine g_X12_rule_73 ⟨fun _ => ⟨wt3.t rfl (by omega) (by omega), f3.i rfl, h14, fun h0 h1 => ?_, fun h0 h1 h2 => ?_, fun _ => ⟨rfl, rfl, fun k hk => h200 k (by omega)⟩⟩, fun c => absurd ((nI_leI (by omega) (by omega)).mpr (by omega)) c⟩
      · exact (hX.elim (fun q => h0 q) (fun q => h1 q.1)).elim
      · exact (hX.elim (fun q => h0 q) (fun q => q.2 h2)).elim
    | succ j ih =>
      intro x2 m3 hx wt3 f3 h14 h195 h200
      refine g_X12_rule_73 ⟨fun c => absurd ((nI_leI (by omega) (by omega)).mp c) (by omega), fun _ => ⟨nat_in (by omega) (by decide), nat_in (by omega) (by decide), ?_⟩⟩
      rw [nI_1, nI_clamp (by omega)]
      refine ih (x2 + 1) _ (by omega) (wt3.n rfl) (f3.i rfl) h14 (fun k hk => h195 k hk) (fun k hk => ?_)
      by_cases hk2 : k = x2
      · rw [hk2]
        exact u_eq.trans (congrArg (vp_nar .byte) (h195 x2 (by omega)))
      · exact (u_ne (fun q => hk2 q.2)).trans (h200 k (by omega))
  refine ⟨rfl, fun c => ?_, fun c => ?_⟩
  · have h0 : t = 0 := by
      have := (nI_leI (a := t) (b := 0) (by omega) (by omega)).mp c
      omega
    subst h0
    exact cp _ (Or.inl rfl) (by decide) 0 0 mc rfl w2 (Fx.tr Fx.rf F2 (RS_sub rfl)) z14 (fun k hk => absurd hk (Nat.not_lt_zero k)) (fun k hk => absurd hk (Nat.not_lt_zero k))
  · have h0 : t ≠ 0 := fun q => by
      subst q
      exact c ((nI_leI (a := 0) (b := 0) (by omega) (by omega)).mpr (Nat.le_refl _))
    refine ((rul_ok (d := d) A 164).2.2.2 0 (by decide) 0 (-1) mc P2 En (by omega)).to ?_
    rintro _ m2 ⟨rfl, h2, -, f2⟩
    have F3 := F2.tr f2 (RS_sub rfl)
    have wt2 := w2.fx f2
    generalize prF (m.1 195) (minT t 40) (fun _ => 0) 164 3 0 (0, -1) = R at h2 ⊢
    obtain ⟨v, q, u⟩ := R
    dsimp only at h2 ⊢
    have hqe : q ≤ minT t 40 := h2.2.2.2.2.2.1
    have e57 : ∀ (m3 : Wm) (w3 : Int32), PS 195 t 40 (minT t 40) (m.1 195) q w3 m3 → Fx (RS [22]) m2 m3 → (w3 = -1 → u = -1 ∧ t ≤ q) → (w3 ≠ -1 → (u ≠ -1 ∧ w3 = u) ∨ (u = -1 ∧ q < t ∧ w3 = nI q)) → AW ad E0 μX12_rule (d + 167 + 1) (ruM m t (q, u)) 57 [(0, .ref (ad 187)), (1, .int (nI t))] [] m3 := by
      intro m3 w3 h3 f3 hw hn
      have F4 := F3.tr f3 (RS_sub rfl)
      have wt3 := wt2.fx f3
      have e14 : (m3.1 187 14).toInt = 0 := by rw [f3.at (a := 187) (k := 14) (by decide), f2.at (a := 187) (k := 14) (by decide)]; exact z14
      refine g_X12_rule_57 ((fine_ok h3).to ?_)
      rintro _ m' ⟨eq, rfl⟩
      obtain rfl := eq.symm
      by_cases hq : w3 = -1
      · obtain ⟨hu, htq⟩ := hw hq
        exact ⟨1, by rw [if_pos hq], fun _ => cp (q, u) (Or.inr ⟨hu, by dsimp only; omega⟩) (by omega) t 0 m3 (by omega) wt3 (Fx.tr Fx.rf F4 (RS_sub rfl)) e14 (fun k hk => h3.2.2.2.2.2.2 k (by have hmt : minT t 40 = t := (by unfold minT; split <;> omega); omega)) (fun k hk => absurd hk (Nat.not_lt_zero k)), fun c => absurd c (by decide)⟩
      · have h22 : m3.1 187 22 = w3 := h3.2.2.2.2.1
        refine ⟨0, by rw [if_neg hq], fun c => absurd rfl c, fun _ => ⟨wt3, Fx.tr Fx.rf F4 (RS_sub rfl), e14, fun _ hu => ⟨?_, F4⟩, fun _ hu hlt => ⟨?_, F4⟩, fun hh => ?_⟩⟩
        · rcases hn hq with ⟨-, e⟩ | ⟨hu2, -⟩
          · rw [h22, e]
          · exact absurd hu2 hu
        · rcases hn hq with ⟨hu2, -⟩ | ⟨-, -, e⟩
          · exact absurd hu hu2
          · rw [h22, e]
        · rcases hh with hh | ⟨hu, hge⟩
          · exact absurd hh h0
          · rcases hn hq with ⟨hu2, -⟩ | ⟨-, hlt, -⟩
            · exact absurd hu hu2
            · exact absurd hlt hge
    have h21 : m2.1 187 21 = nI q := h2.2.2.2.1
    refine ⟨v, rfl, fun c => ?_, fun c => ?_⟩
    · rw [h21] at c
      have hle := (nI_leI (a := t) (b := q) (by omega) (by omega)).mp c
      exact e57 m2 u h2 Fx.rf (fun hu => ⟨hu, hle⟩) (fun hu => Or.inl ⟨hu, rfl⟩)
    · rw [h21] at c ⊢
      have hlt : q < t := Nat.lt_of_not_le (fun z => c ((nI_leI (by omega) (by omega)).mpr z))
      refine (fault_ok A h2).to ?_
      rintro _ m3 ⟨rfl, h3, f3⟩
      refine ⟨rfl, e57 m3 _ h3 f3 (fun z => (flt_2 (p := _) (w := u) z (by omega)).elim) (fun _ => ?_)⟩
      by_cases hu : u = -1
      · exact Or.inr ⟨hu, hlt, congrArg Prod.snd (if_pos hu)⟩
      · exact Or.inl ⟨hu, congrArg Prod.snd (if_neg hu)⟩
end RUE
end
section
/-! THE RULE: the class takes it sign by sign; what its cells hold -/
def fAt : List Bool → Nat → Bool
  | [], _ => false
  | f :: _, 0 => f
  | _ :: r, k + 1 => fAt r k
def cAt : List Int32 → Nat → Int32
  | [], _ => 0
  | x :: _, 0 => x
  | _ :: r, k + 1 => cAt r k
/-- row a holds the list, its last first -/
def LCel (m : Wm) (a : Nat) (l : List Int32) : Prop := ∀ i, i < l.length → m.1 a i = cAt l (l.length - 1 - i)
/-- what emit, hold and release touch -/
def RK (b0 b k : Nat) : Prop := (b = b0 ∧ (k = 4 ∨ k = 5)) ∨ b = b0 + 1 ∨ b = b0 + 3
/-- of the rule b0 alone -/
def RB (b0 a k : Nat) : Prop := (a = b0 ∧ 4 ≤ k ∧ k ≤ 8) ∨ a = b0 + 1 ∨ a = b0 + 3 ∨ a = b0 + 4
def XC (b0 : Nat) (cd wt : List Int32) (m : Wm) : Prop := m.1 b0 4 = nI cd.length ∧ LCel m (b0 + 1) cd ∧ m.1 b0 5 = nI wt.length ∧ LCel m (b0 + 3) wt
def RX (b0 : Nat) : XS → Wm → Prop
  | ((w, dg, fs), cd, wt), m => m.1 b0 8 = (if w = true then 1 else 0) ∧ m.1 b0 7 = nI dg ∧ dg ≤ 3 ∧ (w = false → cd ≠ []) ∧ XC b0 cd wt m ∧ ∃ D, fs.length = D + 1 ∧ D ≤ 4 ∧ m.1 b0 6 = nI D ∧ ∀ i, i ≤ D → m.1 (b0 + 4) i = if fAt fs (D - i) = true then 1 else 0
def RXQ (m0 : Wm) (b0 : Nat) (c : Int32) (X : XS) (r : Option Value) (m' : Wm) : Prop := WT m' ∧ Fx (RB b0) m0 m' ∧ ((r = some (.int 1) ∧ ∃ X', xst c X = some X' ∧ RX b0 X' m') ∨ (r = some (.int 0) ∧ xst c X = none))
theorem relL_len {r : Nat} : ∀ (wt cd : List Int32), (relL r wt cd).1.length + (relL r wt cd).2.length = cd.length + wt.length := by
  intro wt
  induction wt with
  | nil => intro cd; rfl
  | cons x wt ih =>
    intro cd
    show (if rkN x < r then (cd, x :: wt) else relL r wt ((1000 + x) :: cd)).1.length + (if rkN x < r then (cd, x :: wt) else relL r wt ((1000 + x) :: cd)).2.length = _
    by_cases h : rkN x < r
    · rw [if_pos h]
    · rw [if_neg h, ih, List.length_cons, List.length_cons]; omega
theorem relL_ne {r : Nat} : ∀ (wt cd : List Int32), cd ≠ [] → (relL r wt cd).1 ≠ [] := by
  intro wt
  induction wt with
  | nil => intro cd h; exact h
  | cons x wt ih =>
    intro cd h
    show (if rkN x < r then (cd, x :: wt) else relL r wt ((1000 + x) :: cd)).1 ≠ []
    by_cases h2 : rkN x < r
    · rw [if_pos h2]; exact h
    · rw [if_neg h2]; exact ih _ (by simp)
theorem xcd_len {c : Int32} {w : Bool} {cd wt : List Int32} : (xcd c w cd wt).1.length + (xcd c w cd wt).2.length ≤ cd.length + wt.length + 1 := by
  have h1 := relL_len (r := 1) wt cd
  have h2 := relL_len (r := rkN c) wt cd
  have h3 : (digL (c - 48) cd).length = cd.length := by cases cd <;> rfl
  have h4 : (relL 1 wt cd).2.tail.length ≤ (relL 1 wt cd).2.length := by
    generalize (relL 1 wt cd).2 = l
    cases l with
    | nil => exact Nat.le_refl _
    | cons x l => show l.length ≤ (x :: l).length; rw [List.length_cons]; omega
  unfold xcd
  by_cases a1 : isDg c
  · rw [if_pos a1]
    by_cases a2 : w = true
    · rw [if_pos a2]; show ((c - 48) :: cd).length + wt.length ≤ _; rw [List.length_cons]; omega
    · rw [if_neg a2]; show (digL (c - 48) cd).length + wt.length ≤ _; omega
  · rw [if_neg a1]
    by_cases a2 : w = true
    · rw [if_pos a2]
      by_cases a3 : c = 45
      · rw [if_pos a3]; show cd.length + ((256 : Int32) :: wt).length ≤ _; rw [List.length_cons]; omega
      · rw [if_neg a3]
        by_cases a4 : c = 40
        · rw [if_pos a4]; show cd.length + ((40 : Int32) :: wt).length ≤ _; rw [List.length_cons]; omega
        · rw [if_neg a4]; show ((1000 + c) :: cd).length + wt.length ≤ _; rw [List.length_cons]; omega
    · rw [if_neg a2]
      by_cases a3 : c = 41
      · rw [if_pos a3]; show (relL 1 wt cd).1.length + (relL 1 wt cd).2.tail.length ≤ _; omega
      · rw [if_neg a3]; show (relL (rkN c) wt cd).1.length + (c :: (relL (rkN c) wt cd).2).length ≤ _; rw [List.length_cons]; omega
theorem xst_len {c : Int32} {X X' : XS} (h : xst c X = some X') : X'.2.1.length + X'.2.2.length ≤ X.2.1.length + X.2.2.length + 1 := by
  unfold xst at h
  cases e : rst c X.1 with
  | none => rw [e] at h; cases h
  | some S =>
    rw [e] at h
    have h' : (S, xcd c X.1.1 X.2.1 X.2.2) = X' := Option.some.inj h
    rw [← h']
    exact xcd_len
section RCC
variable {ad : Nat → Nat} {d b0 : Nat} {m m0 : Wm} {cd wt : List Int32}
theorem LCel.c {a : Nat} {x : Int32} {l : List Int32} (h : LCel m a l) : LCel (uI m a l.length x) a (x :: l) := fun i hi => by
  rw [List.length_cons] at hi ⊢
  by_cases e : i = l.length
  · rw [e, show l.length + 1 - 1 - l.length = 0 by omega]
    exact u_eq
  · rw [show l.length + 1 - 1 - i = (l.length - 1 - i) + 1 by omega]
    exact (u_ne (fun q => e q.2)).trans (h i (by omega))
theorem LCel.t {a : Nat} {x : Int32} {l : List Int32} (h : LCel m a (x :: l)) : LCel m a l := fun i hi => by
  have h1 := h i (by rw [List.length_cons]; omega)
  rw [List.length_cons, show l.length + 1 - 1 - i = (l.length - 1 - i) + 1 by omega] at h1
  exact h1
theorem LCel.h {a : Nat} {x : Int32} {l : List Int32} (h : LCel m a (x :: l)) : m.1 a l.length = x := by
  have h1 := h l.length (by rw [List.length_cons]; omega)
  rw [List.length_cons, show l.length + 1 - 1 - l.length = 0 by omega] at h1
  exact h1
theorem LCel.k {a : Nat} {l : List Int32} {m' : Wm} (h : LCel m a l) (e : ∀ k, m'.1 a k = m.1 a k) : LCel m' a l := fun i hi => (e i).trans (h i hi)
theorem XC.k {m' : Wm} (h : XC b0 cd wt m) (e : ∀ a k, RK b0 a k → m'.1 a k = m.1 a k) : XC b0 cd wt m' := by
  obtain ⟨h1, h2, h3, h4⟩ := h
  exact ⟨(e b0 4 (Or.inl ⟨rfl, Or.inl rfl⟩)).trans h1, h2.k (fun k => e _ k (Or.inr (Or.inl rfl))), (e b0 5 (Or.inl ⟨rfl, Or.inr rfl⟩)).trans h3, h4.k (fun k => e _ k (Or.inr (Or.inr rfl)))⟩
theorem cnt4 (hb : b0 = 5 ∨ b0 = 10) (w : WT m) : 0 ≤ (m.1 b0 4).toInt ∧ (m.1 b0 4).toInt ≤ 40 := by
  rcases hb with rfl | rfl
  · exact w.at (a := 5) (k := 4) rfl
  · exact w.at (a := 10) (k := 4) rfl
theorem cnt5 (hb : b0 = 5 ∨ b0 = 10) (w : WT m) : 0 ≤ (m.1 b0 5).toInt ∧ (m.1 b0 5).toInt ≤ 40 := by
  rcases hb with rfl | rfl
  · exact w.at (a := 5) (k := 5) rfl
  · exact w.at (a := 10) (k := 5) rfl
theorem wR1 (hb : b0 = 5 ∨ b0 = 10) (w : WT m) {k : Nat} {v : Int32} : WT (uI m (b0 + 1) k v) := by rcases hb with rfl | rfl; exact w.n rfl; exact w.n rfl
theorem wR3 (hb : b0 = 5 ∨ b0 = 10) (w : WT m) {k : Nat} {v : Int32} : WT (uI m (b0 + 3) k v) := by rcases hb with rfl | rfl; exact w.n rfl; exact w.n rfl
theorem wR_4 (hb : b0 = 5 ∨ b0 = 10) (w : WT m) {v : Int32} (h0 : 0 ≤ v.toInt) (h1 : v.toInt ≤ 40) : WT (uI m b0 4 v) := by rcases hb with rfl | rfl; exact w.t rfl h0 h1; exact w.t rfl h0 h1
theorem wR_5 (hb : b0 = 5 ∨ b0 = 10) (w : WT m) {v : Int32} (h0 : 0 ≤ v.toInt) (h1 : v.toInt ≤ 40) : WT (uI m b0 5 v) := by rcases hb with rfl | rfl; exact w.t rfl h0 h1; exact w.t rfl h0 h1
theorem e_emitK (hb : b0 = 5 ∨ b0 = 10) (w : WT m) (f : Fx (RK b0) m0 m) (C : XC b0 cd wt m) (hl : cd.length < 40) {x : Int32} : Ct ad μX5_emit d [.ref (ad b0), .int x] m (fun r m' => r = none ∧ WT m' ∧ Fx (RK b0) m0 m' ∧ XC b0 (x :: cd) wt m') := by
  obtain ⟨h1, h2, h3, h4⟩ := C
  have tl : (nI cd.length).toInt = cd.length := nI_toInt (by omega)

  refine v_X5_emit (Ru_of hb) ⟨fun c => ?_, fun c => ?_⟩
  · rw [h1] at c; have := y_lel (n := 40) rfl c; omega
  · have e : (uI m (b0 + 1) (m.1 b0 4).toNatClampNeg x).1 b0 4 = m.1 b0 4 := u_ne (by omega)
    rw [e, h1, nI_1, nI_clamp (by omega)]
    refine ⟨nat_in (by omega) (by decide), rfl, wR_4 hb (wR1 hb w) ?_ ?_, (f.i (Or.inr (Or.inl rfl))).i (Or.inl ⟨rfl, Or.inl rfl⟩), ?_, ?_, ?_, ?_⟩
    · rw [nI_toInt (by omega)]; omega
    · rw [nI_toInt (by omega)]; omega
    · rw [List.length_cons]; exact u_eq
    · exact (LCel.c (x := x) h2).k (fun k => u_ne (by omega))
    · exact (u_ne (by omega)).trans ((u_ne (by omega)).trans h3)
    · exact h4.k (fun k => (u_ne (by omega)).trans (u_ne (by omega)))
theorem e_holdK (hb : b0 = 5 ∨ b0 = 10) (w : WT m) (f : Fx (RK b0) m0 m) (C : XC b0 cd wt m) (hl : wt.length < 40) {x : Int32} : Ct ad μX5_hold d [.ref (ad b0), .int x] m (fun r m' => r = none ∧ WT m' ∧ Fx (RK b0) m0 m' ∧ XC b0 cd (x :: wt) m') := by
  obtain ⟨h1, h2, h3, h4⟩ := C
  have tl : (nI wt.length).toInt = wt.length := nI_toInt (by omega)
  refine v_X5_hold (Ru_of hb) ⟨fun c => ?_, fun c => ?_⟩
  · rw [h3] at c; have := y_lel (n := 40) rfl c; omega
  · have e : (uI m (b0 + 3) (m.1 b0 5).toNatClampNeg x).1 b0 5 = m.1 b0 5 := u_ne (by omega)
    rw [e, h3, nI_1, nI_clamp (by omega)]
    refine ⟨nat_in (by omega) (by decide), rfl, wR_5 hb (wR3 hb w) ?_ ?_, (f.i (Or.inr (Or.inr rfl))).i (Or.inl ⟨rfl, Or.inr rfl⟩), ?_, ?_, ?_, ?_⟩
    · rw [nI_toInt (by omega)]; omega
    · rw [nI_toInt (by omega)]; omega
    · exact (u_ne (by omega)).trans ((u_ne (by omega)).trans h1)
    · exact h2.k (fun k => (u_ne (by omega)).trans (u_ne (by omega)))
    · rw [List.length_cons]; exact u_eq
    · exact (LCel.c (x := x) h4).k (fun k => u_ne (by omega))
theorem e_rank {c : Int32} : Ct ad μX5_rank d [.int c] m (fun r m' => m' = m ∧ r = some (.int (nI (rkN c)))) := by
  refine v_X5_rank ⟨?_, ?_, ?_, ?_, ?_, ?_, ?_, ?_, fun h1 h2 h3 h4 h5 h6 h7 h8 => ?_⟩
  all_goals first
    | (rintro rfl; exact ⟨rfl, rfl⟩)
    | skip
  refine ⟨rfl, ?_⟩
  have e : rkN c = 0 := by
    unfold rkN
    rw [if_neg (fun q => q.elim h1 h4), if_neg (fun q => q.elim h2 h3), if_neg (fun q => q.elim h5 (fun q => q.elim h6 h7)), if_neg h8]
  rw [e]
  rfl
theorem rk_4 {c : Int32} : rkN c ≤ 4 := by
  unfold rkN
  repeat' split
  all_goals omega
theorem e_relK (hb : b0 = 5 ∨ b0 = 10) (w : WT m) (f : Fx (RK b0) m0 m) (C : XC b0 cd wt m) (hl : cd.length + wt.length ≤ 40) {r : Nat} (hr : r ≤ 4) : Ct ad μX5_release (d + 1) [.ref (ad b0), .int (nI r)] m (fun v m' => v = none ∧ WT m' ∧ Fx (RK b0) m0 m' ∧ XC b0 (relL r wt cd).1 (relL r wt cd).2 m') := by
  have L : ∀ (wt cd : List Int32) (m1 : Wm), cd.length + wt.length ≤ 40 → WT m1 → Fx (RK b0) m0 m1 → XC b0 cd wt m1 → AW ad E0 μX5_release (d + 1) (fun v m' => v = none ∧ WT m' ∧ Fx (RK b0) m0 m' ∧ XC b0 (relL r wt cd).1 (relL r wt cd).2 m') 7 [(0, .ref (ad b0)), (1, .int (nI r)), (2, .int (nI wt.length - 1))] [] m1 := by
    intro wt
    induction wt with
    | nil =>
      intro cd m1 hl w1 f1 C1
      exact g_X5_release_7 (Ru_of hb) ⟨fun _ => ⟨rfl, w1, f1, C1⟩, fun c => absurd (show nI ([] : List Int32).length - 1 < 0 by decide) c⟩
    | cons y wt ih =>
      intro cd m1 hl w1 f1 C1
      obtain ⟨h1, h2, h3, h4⟩ := C1
      rw [List.length_cons] at hl
      have ex : nI (y :: wt).length - 1 = nI wt.length := by rw [List.length_cons]; exact (nI_sb (a := wt.length + 1) (b := 1) (by omega) (by omega)).trans (congrArg nI (Nat.add_sub_cancel _ _))
      rw [ex]
      have tl : (nI wt.length).toInt = wt.length := nI_toInt (by omega)
      have hy := h4.h
      refine g_X5_release_7 (Ru_of hb) ⟨fun c => ?_, fun _ => ?_⟩
      · have := y_ltr (n := 0) rfl c; omega
      · rw [nI_clamp (by omega), hy]
        refine ⟨nat_in (by omega) (by decide), (e_rank).to ?_⟩
        rintro _ m' ⟨eq, rfl⟩
        obtain rfl := eq.symm
        have rk := rk_4 (c := y)
        have er : relL r (y :: wt) cd = if rkN y < r then (cd, y :: wt) else relL r wt ((1000 + y) :: cd) := rfl
        refine ⟨_, rfl, fun c => ?_, fun c => ?_⟩
        · have c' := (nI_leI (a := r) (b := rkN y) (by omega) (by omega)).mp c
          rw [er, if_neg (by omega), hy]
          refine ⟨nat_in (by omega) (by decide), (e_emitK hb w1 f1 ⟨h1, h2, h3, h4⟩ (by omega)).to ?_⟩
          rintro _ m3 ⟨rfl, w3, f3, k1, k2, k3, k4⟩
          refine ⟨rfl, ?_⟩
          have e1 : nI wt.length + (-1 : Int32) = nI wt.length - 1 := by rw [Int32.sub_eq_add_neg]
          rw [e1]
          exact ih _ _ (by rw [List.length_cons]; omega) (wR_5 hb w3 (by omega) (by omega)) (f3.i (Or.inl ⟨rfl, Or.inr rfl⟩)) ⟨(u_ne (by omega)).trans k1, k2.k (fun k => u_ne (by omega)), u_eq, (k4.t).k (fun k => u_ne (by omega))⟩
        · have c' : ¬ r ≤ rkN y := fun z => c ((nI_leI (a := r) (b := rkN y) (by omega) (by omega)).mpr z)
          rw [er, if_pos (by omega)]
          exact ⟨rfl, w1, f1, h1, h2, h3, h4⟩
  refine v_X5_release (Ru_of hb) ?_
  rw [C.2.2.1]
  exact L wt cd m hl w f C
theorem RK_B (a k : Nat) (h : RK b0 a k) : RB b0 a k := by unfold RK at h; unfold RB; omega
theorem RB_1 (hb : b0 = 5 ∨ b0 = 10) (a k : Nat) (h : RB b0 a k) : RS [1] a k := by
  rcases hb with rfl | rfl
  · rcases h with ⟨rfl, h1, h2⟩ | rfl | rfl | rfl <;> rfl
  · rcases h with ⟨rfl, h1, h2⟩ | rfl | rfl | rfl <;> rfl
end RCC
end
section
/-! THE RULE: the class's reader, a sign a step -/
theorem rst_0 {c : Int32} {w : Bool} {dg : Nat} {fs : List Bool} (h : ¬ isDg c) : rst c (w, dg, fs) = rst c (w, 0, fs) := by
  unfold rst
  dsimp only
  rw [if_neg h, if_neg h]
theorem xst_0 {c : Int32} {w : Bool} {dg : Nat} {fs : List Bool} {cd wl : List Int32} (h : ¬ isDg c) : xst c ((w, dg, fs), cd, wl) = xst c ((w, 0, fs), cd, wl) := by
  unfold xst
  dsimp only
  rw [rst_0 h]
section RCT
variable {ad : Nat → Nat} {d b0 : Nat} {m m0 : Wm} {c : Int32} {w : Bool} {dg : Nat} {fs : List Bool} {cd wl : List Int32}
theorem e_isThing : Ct ad μX5_isThing d [.int c] m (fun r m' => m' = m ∧ r = some (.int (if isLt c then 1 else 0))) := by
  have z97 : (97 : Int32).toInt = 97 := rfl
  have z100 : (100 : Int32).toInt = 100 := rfl
  have g : ¬ (97 ≤ c ∧ c ≤ 100) → AW ad E0 μX5_isThing d (fun r m' => m' = m ∧ r = some (.int (if isLt c then 1 else 0))) 12 [(0, .int c)] [] m := fun h => by
    have yes : isLt c → m = m ∧ some (Value.int 1) = some (.int (if isLt c then 1 else 0)) := fun q => ⟨rfl, by rw [if_pos q]⟩
    refine g_X5_isThing_12 ⟨fun q => yes (Or.inr (Or.inl q)), fun n1 => ⟨fun q => yes (Or.inr (Or.inr (Or.inl q))), fun n2 => ⟨fun q => yes (Or.inr (Or.inr (Or.inr (Or.inl q)))), fun n3 => ⟨fun q => yes (Or.inr (Or.inr (Or.inr (Or.inr (Or.inl q))))), fun n4 => ⟨fun q => yes (Or.inr (Or.inr (Or.inr (Or.inr (Or.inr (Or.inl q)))))), fun n5 => ⟨fun n6 => ⟨rfl, ?_⟩, fun q => yes (Or.inr (Or.inr (Or.inr (Or.inr (Or.inr (Or.inr q))))))⟩⟩⟩⟩⟩⟩
    rw [if_neg]
    rintro (q | q | q | q | q | q | q)
    · exact h q
    · exact n1 q
    · exact n2 q
    · exact n3 q
    · exact n4 q
    · exact n5 q
    · exact n6 q
  refine v_X5_isThing ⟨fun q => g (fun z => ?_), fun n1 => ⟨fun q => ⟨rfl, ?_⟩, fun n2 => g (fun z => n2 z.2)⟩⟩
  · have h1 := z_lt q
    have h2 := z_le z.1
    omega
  · rw [if_pos (Or.inl ⟨(fa_le _ _).mpr (by have := z_nlt n1; omega), q⟩)]
theorem wR_n (hb : b0 = 5 ∨ b0 = 10) (wt : WT m) {k : Nat} {v : Int32} (hk : k = 7 ∨ k = 8) : WT (uI m b0 k v) := by
  rcases hb with rfl | rfl <;> rcases hk with rfl | rfl <;> exact wt.n rfl
theorem wR_6 (hb : b0 = 5 ∨ b0 = 10) (wt : WT m) {v : Int32} (h0 : 0 ≤ v.toInt) (h1 : v.toInt ≤ 4) : WT (uI m b0 6 v) := by rcases hb with rfl | rfl; exact wt.t rfl h0 h1; exact wt.t rfl h0 h1
theorem wRf (hb : b0 = 5 ∨ b0 = 10) (wt : WT m) {k : Nat} {v : Int32} : WT (uI m (b0 + 4) k v) := by rcases hb with rfl | rfl; exact wt.n rfl; exact wt.n rfl
theorem fR {m1 : Wm} (hb : b0 = 5 ∨ b0 = 10) (f : Fx (RB b0) m0 m1) {k : Nat} {v : Int32} (hk : 4 ≤ k ∧ k ≤ 8) : Fx (RB b0) m0 (uI m1 b0 k v) := f.i (Or.inl ⟨rfl, hk⟩)
theorem fRa {m1 : Wm} (hb : b0 = 5 ∨ b0 = 10) (f : Fx (RB b0) m0 m1) {j k : Nat} {v : Int32} (hj : j = 1 ∨ j = 3 ∨ j = 4) : Fx (RB b0) m0 (uI m1 (b0 + j) k v) := f.i (Or.inr (by omega))
theorem e_digit (hb : b0 = 5 ∨ b0 = 10) (wt : WT m) (f : Fx (RB b0) m0 m) (C : RX b0 ((w, dg, fs), cd, wl) m) (hl : cd.length + wl.length < 40) (hd : isDg c) : Ct ad μX5_takeDigit (d + 1) [.ref (ad b0), .int (c - 48)] m (fun r m' => ∃ v : Int32, r = some (.int v) ∧ bz v ∧ RXQ m0 b0 c ((w, dg, fs), cd, wl) (some (.int v)) m') := by
  obtain ⟨c8, c7, dg3, c4, X, D, h1, h2, h6, hfl⟩ := C
  refine v_X5_takeDigit (Ru_of hb) ⟨fun q => ?_, fun q => ?_⟩
  · have hw : w = false := by
      cases w with
      | false => rfl
      | true => rw [c8, if_pos rfl] at q; exact absurd q (by decide)
    subst hw
    obtain ⟨x1, x2, x3, x4⟩ := X
    cases cd with
    | nil => exact absurd rfl (c4 rfl)
    | cons y r =>
    rw [List.length_cons] at hl
    have ex : m.1 b0 4 - 1 = nI r.length := by rw [x1, List.length_cons]; exact (nI_sb (a := r.length + 1) (b := 1) (by omega) (by omega)).trans (congrArg nI (Nat.add_sub_cancel _ _))
    have hy := x2.h
    rw [ex, c7, nI_clamp (by omega), hy]
    have V : vp_in (nI r.length) 40 := nat_in (by omega) (by decide)
    refine ⟨fun z => ⟨0, rfl, bz_0, wt, f, Or.inr ⟨rfl, xst_none (rst_dn hd (Or.inl ((nI_eq (a := dg) (b := 0) (by omega) (by omega)).mp z)))⟩⟩, fun z => ⟨fun z3 => ⟨0, rfl, bz_0, wt, f, Or.inr ⟨rfl, xst_none (rst_dn hd (Or.inr ((nI_eq (a := dg) (b := 3) (by omega) (by omega)).mp z3)))⟩⟩, fun z3 => ⟨fun z4 => ⟨V, V, ?_⟩, fun z4 => ?_⟩⟩⟩
    · have n0 : ¬ dg = 0 := fun q => z (by rw [q]; rfl)
      have n3 : ¬ dg = 3 := fun q => z3 (by rw [q]; rfl)
      have e7 : (uI m (b0 + 1) r.length (y * 10 + (c - 48))).1 b0 7 = nI dg := (u_ne (by omega)).trans c7
      rw [e7, nI_1]
      refine ⟨1, rfl, bz_1, wR_n hb (wR1 hb wt) (Or.inl rfl), fR hb (fRa hb f (Or.inl rfl)) (by omega), Or.inl ⟨rfl, _, xs_ds hd (by omega), (u_ne (by omega)).trans ((u_ne (by omega)).trans c8), u_eq, by omega, fun _ => by simp, ⟨?_, ?_, ?_, ?_⟩, D, h1, h2, (u_ne (by omega)).trans ((u_ne (by omega)).trans h6), fun i hi => (u_ne (by omega)).trans ((u_ne (by omega)).trans (hfl i hi))⟩⟩
      · exact (u_ne (by omega)).trans ((u_ne (by omega)).trans x1)
      · exact (LCel.c (x := y * 10 + (c - 48)) x2.t).k (fun k => u_ne (by omega))
      · exact (u_ne (by omega)).trans ((u_ne (by omega)).trans x3)
      · exact x4.k (fun k => (u_ne (by omega)).trans (u_ne (by omega)))
    · rw [x1, List.length_cons] at z4
      have := (nI_eq (a := r.length + 1) (b := 0) (by omega) (by omega)).mp z4
      omega
  · have hw : w = true := by
      cases w with
      | true => rfl
      | false => exact absurd c8 q
    subst hw
    refine (e_emitK (m0 := m) hb wt Fx.rf X (by omega)).to ?_
    rintro _ m1 ⟨rfl, w1, f1, X1⟩
    have k : ∀ a j, ¬ RK b0 a j → m1.1 a j = m.1 a j := fun a j h => f1.at h
    refine ⟨rfl, 1, rfl, bz_1, wR_n hb (wR_n hb w1 (Or.inl rfl)) (Or.inr rfl), fR hb (fR hb (f.tr f1 RK_B) (by omega)) (by omega), Or.inl ⟨rfl, _, xs_d hd, u_eq, (u_ne (by omega)).trans u_eq, by omega, fun _ => by simp, X1.k (fun a k h => by unfold RK at h; exact (u_ne (by omega)).trans (u_ne (by omega))), D, h1, h2, (u_ne (by omega)).trans ((u_ne (by omega)).trans ((k b0 6 (by unfold RK; omega)).trans h6)), fun i hi => (u_ne (by omega)).trans ((u_ne (by omega)).trans ((k (b0 + 4) i (by unfold RK; omega)).trans (hfl i hi)))⟩⟩
end RCT
section RCU
variable {ad : Nat → Nat} {d b0 : Nat} {m m0 : Wm} {c : Int32} {w : Bool} {dg : Nat} {fs : List Bool} {cd wl : List Int32}
theorem e_thing (hb : b0 = 5 ∨ b0 = 10) (wt : WT m) (f : Fx (RB b0) m0 m) (C : RX b0 ((true, 0, fs), cd, wl) m) (hl : cd.length + wl.length < 40) (hd : ¬ isDg c) : Ct ad μX5_takeThing (d + 1) [.ref (ad b0), .int c] m (fun r m' => ∃ v : Int32, r = some (.int v) ∧ bz v ∧ RXQ m0 b0 c ((true, 0, fs), cd, wl) (some (.int v)) m') := by
  obtain ⟨c8, c7, dg3, c4, X, D, h1, h2, h6, hfl⟩ := C
  refine v_X5_takeThing (Ru_of hb) ⟨fun n45 => ⟨fun n40 => (e_isThing).to ?_, fun q40 => ?_⟩, fun q45 => ?_⟩
  · rintro _ m' ⟨eq, rfl⟩
    obtain rfl := eq.symm
    by_cases hl2 : isLt c
    · refine ⟨1, by rw [if_pos hl2], fun _ => (e_emitK (m0 := m) hb wt Fx.rf X (by omega)).to ?_, fun z => absurd z (by decide)⟩
      rintro _ m1 ⟨rfl, w1, f1, X1⟩
      exact ⟨rfl, 1, rfl, bz_1, wR_n hb w1 (Or.inr rfl), fR hb (f.tr f1 RK_B) (by omega), Or.inl ⟨rfl, _, xs_l hl2, u_eq, (u_ne (by omega)).trans ((f1.at (by unfold RK; omega)).trans c7), by omega, fun _ => by simp, X1.k (fun a k h => by unfold RK at h; exact u_ne (by omega)), D, h1, h2, (u_ne (by omega)).trans ((f1.at (by unfold RK; omega)).trans h6), fun i hi => (u_ne (by omega)).trans ((f1.at (by unfold RK; omega)).trans (hfl i hi))⟩⟩
    · exact ⟨0, by rw [if_neg hl2], fun z => absurd rfl z, fun _ => ⟨0, rfl, bz_0, wt, f, Or.inr ⟨rfl, xst_none (rst_wn hd n45 n40 hl2)⟩⟩⟩
  · subst q40
    have tD : (nI D).toInt = D := nI_toInt (by omega)
    have tD1 : (nI (D + 1)).toInt = (D : Int) + 1 := by rw [nI_toInt (by omega)]; omega
    rw [h6, nI_1]
    have e6 : (uI m b0 6 (nI (D + 1))).1 b0 6 = nI (D + 1) := u_eq
    rw [e6]
    refine ⟨fun q => ⟨?_, ?_⟩, fun q => ⟨0, rfl, bz_0, wt, f, Or.inr ⟨rfl, xst_none (rst_on ?_)⟩⟩⟩
    · have := y_ltr (n := 4) rfl q
      exact nat_in (by omega) (by decide)
    · have hD := y_ltr (n := 4) rfl q
      rw [nI_clamp (by omega)]
      have eb : vp_nar .boolean (0 : Int32) = 0 := rfl
      rw [eb]
      have wx : WT (uI (uI m b0 6 (nI (D + 1))) (b0 + 4) (D + 1) (0 : Int32)) := wRf hb (wR_6 hb wt (by omega) (by omega))
      have fx : Fx (RB b0) m0 (uI (uI m b0 6 (nI (D + 1))) (b0 + 4) (D + 1) (0 : Int32)) := fRa hb (fR hb f (by omega)) (Or.inr (Or.inr rfl))
      have Xx : XC b0 cd wl (uI (uI m b0 6 (nI (D + 1))) (b0 + 4) (D + 1) (0 : Int32)) := X.k (fun a k h => by unfold RK at h; exact (u_ne (by omega)).trans (u_ne (by omega)))
      refine (e_holdK (m0 := uI (uI m b0 6 (nI (D + 1))) (b0 + 4) (D + 1) (0 : Int32)) hb wx Fx.rf Xx (by omega)).to ?_
      rintro _ m1 ⟨rfl, w1, f1, X1⟩
      refine ⟨rfl, 1, rfl, bz_1, w1, fx.tr f1 RK_B, Or.inl ⟨rfl, _, xs_o (by omega), (f1.at (by unfold RK; omega)).trans ((u_ne (by omega)).trans ((u_ne (by omega)).trans c8)), (f1.at (by unfold RK; omega)).trans ((u_ne (by omega)).trans ((u_ne (by omega)).trans c7)), by omega, fun z => absurd z (by decide), X1, D + 1, by rw [List.length_cons, h1], by omega, (f1.at (by unfold RK; omega)).trans ((u_ne (by omega)).trans u_eq), fun i hi => ?_⟩⟩
      refine (f1.at (by unfold RK; omega)).trans ?_
      by_cases hi2 : i = D + 1
      · subst hi2
        rw [Nat.sub_self]
        exact u_eq
      · rw [u_ne (fun z => hi2 z.2), u_ne (by omega), hfl i (by omega), show D + 1 - i = (D - i) + 1 by omega]
        rfl
    · have := y_nltr (n := 4) rfl q
      omega
  · subst q45
    refine (e_holdK (m0 := m) hb wt Fx.rf X (by omega)).to ?_
    rintro _ m1 ⟨rfl, w1, f1, X1⟩
    exact ⟨rfl, 1, rfl, bz_1, w1, f.tr f1 RK_B, Or.inl ⟨rfl, _, xs_m, (f1.at (by unfold RK; omega)).trans c8, (f1.at (by unfold RK; omega)).trans c7, by omega, fun z => absurd z (by decide), X1, D, h1, h2, (f1.at (by unfold RK; omega)).trans h6, fun i hi => (f1.at (by unfold RK; omega)).trans (hfl i hi)⟩⟩
theorem fAt_0 {f : Bool} {r : List Bool} : fAt (f :: r) 0 = f := rfl
theorem fAt_s {f : Bool} {r : List Bool} {k : Nat} : fAt (f :: r) (k + 1) = fAt r k := rfl
theorem e_join (hb : b0 = 5 ∨ b0 = 10) (wt : WT m) (f : Fx (RB b0) m0 m) (C : RX b0 ((false, 0, fs), cd, wl) m) (hl : cd.length + wl.length < 40) (hd : ¬ isDg c) (hc : c.toInt ≤ 255) : Ct ad μX5_takeJoin (d + 2) [.ref (ad b0), .int c] m (fun r m' => ∃ v : Int32, r = some (.int v) ∧ bz v ∧ RXQ m0 b0 c ((false, 0, fs), cd, wl) (some (.int v)) m') := by
  obtain ⟨c8, c7, dg3, c4, X, D, h1, h2, h6, hfl⟩ := C
  have cn := c4 rfl
  have ls := relL_len (r := rkN c) wl cd
  have tD : (nI D).toInt = D := nI_toInt (by omega)
  -- after the flag: what is held by rank, then the sign
  have fin : ∀ (fs' : List Bool) (m1 : Wm), xst c ((false, 0, fs), cd, wl) = some ((true, 0, fs'), (relL (rkN c) wl cd).1, c :: (relL (rkN c) wl cd).2) → fs'.length = D + 1 → WT m1 → Fx (RB b0) m0 m1 → XC b0 cd wl m1 → m1.1 b0 7 = 0 → m1.1 b0 6 = nI D → (∀ i, i ≤ D → m1.1 (b0 + 4) i = if fAt fs' (D - i) = true then 1 else 0) → AW ad E0 μX5_takeJoin (d + 1 + 1) (fun r m' => ∃ v : Int32, r = some (.int v) ∧ bz v ∧ RXQ m0 b0 c ((false, 0, fs), cd, wl) (some (.int v)) m') 89 [(0, .ref (ad b0)), (1, .int c), (2, .int (nI (rkN c)))] [] m1 := by
    intro fs' m1 hs hl1 w1 f1 X1 k7 k6 kf
    refine g_X5_takeJoin_89 (Ru_of hb) ((e_relK (m0 := m1) hb w1 Fx.rf X1 (by omega) rk_4).to ?_)
    rintro _ m2 ⟨rfl, w2, f2, X2⟩
    refine ⟨rfl, (e_holdK (m0 := m1) hb w2 f2 X2 (by omega)).to ?_⟩
    rintro _ m3 ⟨rfl, w3, f3, X3⟩
    exact ⟨rfl, 1, rfl, bz_1, wR_n hb w3 (Or.inr rfl), fR hb (f1.tr f3 RK_B) (by omega), Or.inl ⟨rfl, _, hs, u_eq, (u_ne (by omega)).trans ((f3.at (by unfold RK; omega)).trans k7), by omega, fun z => absurd z (by decide), X3.k (fun a k h => by unfold RK at h; exact u_ne (by omega)), D, hl1, h2, (u_ne (by omega)).trans ((f3.at (by unfold RK; omega)).trans k6), fun i hi => (u_ne (by omega)).trans ((f3.at (by unfold RK; omega)).trans (kf i hi))⟩⟩
  refine v_X5_takeJoin (Ru_of hb) ⟨fun n41 => (e_rank).to ?_, fun q41 => ?_⟩
  · rintro _ m' ⟨eq, rfl⟩
    obtain rfl := eq.symm
    have rk : rkN c ≤ 4 := rk_4
    refine ⟨_, rfl, fun z => ?_, fun z => ⟨fun z1 => ?_, fun z1 => ?_⟩⟩
    · have e0 : rkN c = 0 := (nI_eq (a := rkN c) (b := 0) (by omega) (by omega)).mp z
      have nj : ¬ isJn c ∧ ¬ isCm c := by
        unfold rkN at e0
        by_cases a1 : c = 42 ∨ c = 47
        · rw [if_pos a1] at e0; omega
        · by_cases a2 : c = 43 ∨ c = 45
          · rw [if_neg a1, if_pos a2] at e0; omega
          · by_cases a3 : isCm c
            · rw [if_neg a1, if_neg a2, if_pos a3] at e0; omega
            · exact ⟨fun q => by rcases q with q | q | q | q; exact a1 (Or.inl q); exact a2 (Or.inl q); exact a2 (Or.inr q); exact a1 (Or.inr q), a3⟩
      exact ⟨0, rfl, bz_0, wt, f, Or.inr ⟨rfl, xst_none (rst_n hd n41 nj.2 nj.1)⟩⟩
    · have hj : isJn c := by
        by_cases a1 : c = 42 ∨ c = 47
        · rcases a1 with q | q
          · exact Or.inl q
          · exact Or.inr (Or.inr (Or.inr q))
        · by_cases a2 : c = 43 ∨ c = 45
          · rcases a2 with q | q
            · exact Or.inr (Or.inl q)
            · exact Or.inr (Or.inr (Or.inl q))
          · exfalso
            by_cases a3 : isCm c
            · have e : rkN c = 1 := by unfold rkN; rw [if_neg a1, if_neg a2, if_pos a3]
              exact z1 (by rw [e]; rfl)
            · have n4 : ¬ c = 256 := fun q => by rw [q] at hc; exact absurd hc (by decide)
              have e : rkN c = 0 := by unfold rkN; rw [if_neg a1, if_neg a2, if_neg a3, if_neg n4]
              exact z (by rw [e]; rfl)
      exact g_X5_takeJoin_74 (Ru_of hb) ⟨fun _ => fin fs m (xs_j hj) h1 wt f X c7 h6 hfl, fun q => absurd q z1⟩
    · have hcm : isCm c := by
        by_cases a1 : c = 42 ∨ c = 47
        · have e : rkN c = 3 := by unfold rkN; rw [if_pos a1]
          rw [e] at z1; exact absurd z1 (by decide)
        · by_cases a2 : c = 43 ∨ c = 45
          · have e : rkN c = 2 := by unfold rkN; rw [if_neg a1, if_pos a2]
            rw [e] at z1; exact absurd z1 (by decide)
          · by_cases a3 : isCm c
            · exact a3
            · have n4 : ¬ c = 256 := fun q => by rw [q] at hc; exact absurd hc (by decide)
              have e : rkN c = 0 := by unfold rkN; rw [if_neg a1, if_neg a2, if_neg a3, if_neg n4]
              exact absurd (by rw [e]; rfl) z
      obtain ⟨f0, r, rfl⟩ : ∃ f0 r, fs = f0 :: r := by
        cases fs with
        | nil => exact absurd h1 (by simp)
        | cons f0 r => exact ⟨f0, r, rfl⟩
      have hD := hfl D (Nat.le_refl _)
      rw [Nat.sub_self, fAt_0] at hD
      rw [h6, nI_clamp (by omega)]
      refine ⟨nat_in (by omega) (by decide), fun q => ?_, fun q => ?_⟩
      · have hf0 : f0 = false := by
          cases f0 with
          | false => rfl
          | true => rw [hD, if_pos rfl] at q; exact absurd q (by decide)
        subst hf0
        refine g_X5_takeJoin_74 (Ru_of hb) ⟨fun q2 => absurd z1 q2, fun _ => ?_⟩
        rw [h6, nI_clamp (by omega)]
        have eb : vp_nar .boolean (1 : Int32) = 1 := rfl
        rw [eb]
        refine ⟨nat_in (by omega) (by decide), fin (true :: r) _ (xs_c hcm) (by rw [List.length_cons] at h1 ⊢; exact h1) (wRf hb wt) (fRa hb f (Or.inr (Or.inr rfl))) (X.k (fun a k h => by unfold RK at h; exact u_ne (by omega))) ((u_ne (by omega)).trans c7) ((u_ne (by omega)).trans h6) (fun i hi => ?_)⟩
        by_cases hi2 : i = D
        · subst hi2
          rw [Nat.sub_self]
          exact u_eq
        · rw [u_ne (fun z => hi2 z.2), hfl i hi, show D - i = (D - i - 1) + 1 by omega]
          rfl
      · have hf0 : f0 = true := by
          cases f0 with
          | true => rfl
          | false => exact absurd hD q
        subst hf0
        exact ⟨0, rfl, bz_0, wt, f, Or.inr ⟨rfl, xst_none (rst_cn hcm)⟩⟩
  · subst q41
    refine ⟨fun q => (e_relK (m0 := m) (r := 1) hb wt Fx.rf X (by omega) (by decide)).to ?_, fun q => ?_⟩
    · have hD0 : D ≠ 0 := fun z => q (by rw [h6, z]; rfl)
      obtain ⟨f0, g, r, rfl⟩ : ∃ f0 g r, fs = f0 :: g :: r := by
        cases fs with
        | nil => exact absurd h1 (by simp)
        | cons f0 r =>
          cases r with
          | nil => rw [List.length_cons, List.length_nil] at h1; omega
          | cons g r => exact ⟨f0, g, r, rfl⟩
      rintro _ m1 ⟨rfl, w1, f1, X1⟩
      have n1 := relL_ne (r := 1) wl cd cn
      have l1 := relL_len (r := 1) wl cd
      have hp5 : (if (0 : Int32) < m1.1 b0 5 - 1 then m1.1 b0 5 - 1 else (0 : Int32)) = nI (relL 1 wl cd).2.tail.length ∧ LCel m1 (b0 + 3) (relL 1 wl cd).2.tail := by
        obtain ⟨-, -, x3, x4⟩ := X1
        rw [x3]
        generalize (relL 1 wl cd).2 = l at x3 x4 l1
        cases l with
        | nil => exact ⟨by decide, fun i hi => absurd hi (Nat.not_lt_zero i)⟩
        | cons x l =>
          rw [List.length_cons] at l1
          refine ⟨?_, x4.t⟩
          have ex : nI (x :: l).length - 1 = nI l.length := by rw [List.length_cons]; exact (nI_sb (a := l.length + 1) (b := 1) (by omega) (by omega)).trans (congrArg nI (Nat.add_sub_cancel _ _))
          rw [ex]
          show (if (0 : Int32) < nI l.length then nI l.length else 0) = nI l.length
          by_cases h0 : l.length = 0
          · rw [h0]; decide
          · rw [if_pos ((fa_lt _ _).mpr (by rw [nI_toInt (by omega)]; have z : (0 : Int32).toInt = 0 := rfl; omega))]
      have t5 := cnt5 hb w1
      have z1 : (1 : Int32).toInt = 1 := rfl
      have z0 : (0 : Int32).toInt = 0 := rfl
      have ts : (m1.1 b0 5 - 1).toInt = (m1.1 b0 5).toInt - 1 := by
        have := ti_sub (x := m1.1 b0 5) (y := (1 : Int32)) (by omega)
        omega
      have hv : 0 ≤ (if (0 : Int32) < m1.1 b0 5 - 1 then m1.1 b0 5 - 1 else (0 : Int32)).toInt ∧ (if (0 : Int32) < m1.1 b0 5 - 1 then m1.1 b0 5 - 1 else (0 : Int32)).toInt ≤ 40 := by
        by_cases hp : (0 : Int32) < m1.1 b0 5 - 1
        · rw [if_pos hp]
          have := z_lt hp
          omega
        · rw [if_neg hp]
          omega
      generalize (if (0 : Int32) < m1.1 b0 5 - 1 then m1.1 b0 5 - 1 else (0 : Int32)) = x at hv hp5 ⊢
      have e6 : (uI m1 b0 5 x).1 b0 6 = nI D := (u_ne (by omega)).trans ((f1.at (by unfold RK; omega)).trans h6)
      have e6' : nI D - 1 = nI (D - 1) := nI_sb (b := 1) (by omega) (by omega)
      rw [e6, e6']
      have tD' : (nI (D - 1)).toInt = ((D - 1 : Nat) : Int) := nI_toInt (by omega)
      refine ⟨rfl, 1, rfl, bz_1, wR_6 hb (wR_5 hb w1 hv.1 hv.2) (by omega) (by omega), fR hb (fR hb (f.tr f1 RK_B) (by omega)) (by omega), Or.inl ⟨rfl, _, xs_p, (u_ne (by omega)).trans ((u_ne (by omega)).trans ((f1.at (by unfold RK; omega)).trans c8)), (u_ne (by omega)).trans ((u_ne (by omega)).trans ((f1.at (by unfold RK; omega)).trans c7)), by omega, fun _ => n1, ⟨(u_ne (by omega)).trans ((u_ne (by omega)).trans X1.1), X1.2.1.k (fun k => (u_ne (by omega)).trans (u_ne (by omega))), (u_ne (by omega)).trans (u_eq.trans hp5.1), hp5.2.k (fun k => (u_ne (by omega)).trans (u_ne (by omega)))⟩, D - 1, by simp only [List.length_cons] at h1 ⊢; omega, by omega, u_eq, fun i hi => ?_⟩⟩
      refine (u_ne (by omega)).trans ((u_ne (by omega)).trans ((f1.at (by unfold RK; omega)).trans ((hfl i (by omega)).trans ?_)))
      rw [show D - i = (D - 1 - i) + 1 by omega]
      rfl
    · have hD0 : D = 0 := (nI_eq (a := D) (b := 0) (by omega) (by omega)).mp (h6.symm.trans q)
      obtain ⟨f0, rfl⟩ : ∃ f0, fs = [f0] := by
        cases fs with
        | nil => exact absurd h1 (by simp)
        | cons f0 r =>
          cases r with
          | nil => exact ⟨f0, rfl⟩
          | cons g r => rw [List.length_cons, List.length_cons] at h1; omega
      exact ⟨0, rfl, bz_0, wt, f, Or.inr ⟨rfl, xst_none rst_p1⟩⟩
end RCU
end
section
/-! THE RULE: both sides -/
section RCV
variable {ad : Nat → Nat} {d b0 : Nat} {m m0 : Wm} {c : Int32} {w : Bool} {dg : Nat} {fs : List Bool} {cd wl : List Int32}
theorem e_take5 (hb : b0 = 5 ∨ b0 = 10) (wt : WT m) (f : Fx (RB b0) m0 m) (C : RX b0 ((w, dg, fs), cd, wl) m) (hl : cd.length + wl.length < 40) (hc : c.toInt ≤ 255) : Ct ad μX5_take (d + 3) [.ref (ad b0), .int c] m (fun r m' => ∃ v : Int32, r = some (.int v) ∧ RXQ m0 b0 c ((w, dg, fs), cd, wl) (some (.int v)) m') := by
  have g21 : ¬ isDg c → AW ad E0 μX5_take (d + 2 + 1) (fun r m' => ∃ v : Int32, r = some (.int v) ∧ RXQ m0 b0 c ((w, dg, fs), cd, wl) (some (.int v)) m') 21 [(0, .ref (ad b0)), (1, .int c)] [] m := fun hd => by
    have C0 : RX b0 ((w, 0, fs), cd, wl) (uI m b0 7 0) := by
      obtain ⟨c8, c7, dg3, c4, X, D, h1, h2, h6, hfl⟩ := C
      exact ⟨(u_ne (by omega)).trans c8, u_eq, by omega, c4, X.k (fun a k h => by unfold RK at h; exact u_ne (by omega)), D, h1, h2, (u_ne (by omega)).trans h6, fun i hi => (u_ne (by omega)).trans (hfl i hi)⟩
    have w0 : WT (uI m b0 7 0) := wR_n hb wt (Or.inl rfl)
    have f0 : Fx (RB b0) m0 (uI m b0 7 0) := fR hb f (by omega)
    have up : ∀ (v : Int32) (m' : Wm), RXQ m0 b0 c ((w, 0, fs), cd, wl) (some (.int v)) m' → RXQ m0 b0 c ((w, dg, fs), cd, wl) (some (.int v)) m' := fun v m' h => by
      unfold RXQ at h ⊢
      rw [xst_0 (dg := dg) hd]
      exact h
    cases w with
    | false =>
      refine g_X5_take_21 (Ru_of hb) ⟨fun _ => (e_join (d := d) hb w0 f0 C0 hl hd hc).to ?_, fun q => absurd (C0.1.trans (if_neg (by decide))) q⟩
      rintro r m1 ⟨v, rfl, bv, h⟩
      exact ⟨v, rfl, bv, v, rfl, up v m1 h⟩
    | true =>
      refine g_X5_take_21 (Ru_of hb) ⟨fun q => absurd ((C0.1.trans (if_pos rfl)).symm.trans q) (by decide), fun _ => (e_thing (d := d + 1) hb w0 f0 C0 hl hd).to ?_⟩
      rintro r m1 ⟨v, rfl, bv, h⟩
      exact ⟨v, rfl, bv, v, rfl, up v m1 h⟩
  refine v_X5_take (d := d + 2) (Ru_of hb) ⟨fun q => g21 (fun z => ?_), fun q => ⟨fun q2 => g21 (fun z => ?_), fun q2 => ?_⟩⟩
  · have := z_lt q
    have := z_le z.1
    omega
  · have := z_lt q2
    have := z_le z.2
    omega
  · have hd : isDg c := ⟨(fa_le _ _).mpr (z_nlt q), (fa_le _ _).mpr (z_nlt q2)⟩
    refine (e_digit (d := d + 1) hb wt f C hl hd).to ?_
    rintro r m1 ⟨v, rfl, bv, h⟩
    exact ⟨v, rfl, bv, v, rfl, h⟩
/-- the code as it stands in b0, its last first -/
def CodeX (b0 : Nat) (cl : List Int32) (m : Wm) : Prop := m.1 b0 4 = nI cl.length ∧ LCel m (b0 + 1) cl ∧ cl.length ≤ 40
def rcR (b0 : Nat) (m : Wm) (O : Nat ⊕ XS) (r : Option Value) (m' : Wm) : Prop := WT m' ∧ Fx (RB b0) m m' ∧ (∀ q, O = .inl q → r = some (.int (nI q)) ∧ q ≤ 40) ∧ ∀ S, O = .inr S → r = some (.int (-1)) ∧ XC b0 (relL 1 S.2.2 S.2.1).1 (relL 1 S.2.2 S.2.1).2 m' ∧ (relL 1 S.2.2 S.2.1).1.length ≤ 40 ∧ (relL 1 S.2.2 S.2.1).1 ≠ []
theorem minT_40 {t : Nat} (ht : t ≤ 80) : (if (40 : Int32) < nI t then (40 : Int32) else nI t) = nI (minT t 40) := by
  unfold minT
  by_cases h : t < 40
  · rw [if_neg (fun q => by have := (lt_l 40 40 rfl (by decide) (by omega)).mp q; omega), if_pos h]
  · rw [if_neg h]
    by_cases h2 : 40 < t
    · rw [if_pos ((lt_l 40 40 rfl (by decide) (by omega)).mpr h2)]
      rfl
    · have : t = 40 := by omega
      rw [if_neg (fun q => h2 ((lt_l 40 40 rfl (by decide) (by omega)).mp q)), this]
theorem e_comp5 {t : Nat} (hb : b0 = 5 ∨ b0 = 10) (wt : WT m) (ht : m.1 1 1 = nI t) (ht80 : t ≤ 80) (ht0 : t ≠ 0) (hch : ∀ k, k < t → (m.1 2 k).toInt ≤ 255) : Ct ad μX5_compile (d + 4) [.ref (ad b0), .ref (ad 1)] m (rcR b0 m (MO xst xok (m.1 2) (decide (40 < t)) (minT t 40) 0 ((true, 0, [false]), [], []))) := by
  generalize hO0 : MO xst xok (m.1 2) (decide (40 < t)) (minT t 40) 0 ((true, 0, [false]), [], []) = O
  have e40 : minT t 40 ≤ 40 := by unfold minT; split <;> omega
  have et : minT t 40 ≤ t := by unfold minT; split <;> omega
  have L : ∀ (k p : Nat) (S : XS) (m1 : Wm), minT t 40 - p < k → p ≤ minT t 40 → S.2.1.length + S.2.2.length ≤ p → WT m1 → Fx (RB b0) m m1 → RX b0 S m1 → MO xst xok (m.1 2) (decide (40 < t)) (minT t 40 - p) p S = O →
      AW ad E0 μX5_compile (d + 3 + 1) (rcR b0 m O) 53 [(0, .ref (ad b0)), (1, .ref (ad 1)), (2, .int (nI (minT t 40))), (3, .int (nI p))] [] m1 := by
    intro k
    induction k with
    | zero => intros; omega
    | succ k ih =>
      intro p S m1 hk hp hln w1 f1 C hO
      obtain ⟨⟨w, dg, fs⟩, cd, wl⟩ := S
      dsimp only at hln
      have C1 := C
      obtain ⟨c8, c7, dg3, c4, X, D, h1, h2, h6, hfl⟩ := C
      have t1 : m1.1 1 1 = nI t := (f1.at (a := 1) (k := 1) (by unfold RB; omega)).trans ht
      have t2 : ∀ k, m1.1 2 k = m.1 2 k := fun k => f1.at (a := 2) (k := k) (by unfold RB; omega)
      refine g_X5_compile_53 (Ru_of hb) ⟨fun c => ?_, fun c => ?_⟩
      · have hpe : p = minT t 40 := by have := (nI_leI (a := minT t 40) (b := p) (by omega) (by omega)).mp c; omega
        rw [t1, c8, h6]
        rw [show minT t 40 - p = 0 by omega] at hO
        have bad : O = .inl p → rcR b0 m O (some (.int (nI (minT t 40)))) m1 := fun h => ⟨w1, f1, fun q2 h2 => (by rw [h] at h2; cases h2; exact ⟨by rw [hpe], by omega⟩), fun S2 h2 => (by rw [h] at h2; cases h2)⟩
        refine ⟨fun q => bad ?_, fun q => ⟨fun q8 => bad ?_, fun q8 => ⟨fun q6 => ?_, fun q6 => bad ?_⟩⟩⟩
        · have hb : decide (40 < t) = true := decide_eq_true ((lt_l 40 40 rfl (by decide) (by omega)).mp q)
          rw [← hO]
          exact MO_n (by rw [hb]; exact fun z => absurd z.1 (by decide))
        · have hw : w = true := by
            cases w with
            | true => rfl
            | false => exact absurd (if_neg (by decide)) q8
          rw [← hO]
          refine MO_n (fun z => ?_)
          have := (of_decide_eq_true z.2).1
          rw [hw] at this
          exact absurd this (by decide)
        · have hw : w = false := by
            cases w with
            | false => rfl
            | true => rw [if_pos rfl] at q8; exact absurd q8 (by decide)
          have hD : D = 0 := by
            have := (nI_leI (a := D) (b := 0) (by omega) (by omega)).mp q6
            omega
          have hbg : decide (40 < t) = false := decide_eq_false (fun z => q ((lt_l 40 40 rfl (by decide) (by omega)).mpr z))
          have hok : xok ((w, dg, fs), cd, wl) = true := decide_eq_true ⟨hw, by omega⟩
          rw [MO_e ⟨hbg, hok⟩] at hO
          refine (e_relK (d := d + 2) (m0 := m1) (r := 1) hb w1 Fx.rf X (by omega) (by decide)).to ?_
          rintro _ m2 ⟨rfl, w2, f2, X2⟩
          exact ⟨rfl, w2, f1.tr f2 RK_B, fun q2 h2 => (by rw [h2] at hO; cases hO), fun S e => (by rw [e] at hO; cases hO; exact ⟨rfl, X2, by have := relL_len (r := 1) wl cd; dsimp only; omega, by dsimp only; exact relL_ne _ _ (c4 hw)⟩)⟩
        · have hD : D ≠ 0 := fun z => q6 (by rw [z]; exact (nI_leI (a := 0) (b := 0) (by omega) (by omega)).mpr (Nat.le_refl _))
          rw [← hO]
          refine MO_n (fun z => ?_)
          have := (of_decide_eq_true z.2).2
          omega
      · have hpe : p < minT t 40 := Nat.lt_of_not_le (fun z => c ((nI_leI (a := minT t 40) (b := p) (by omega) (by omega)).mpr z))
        rw [nI_clamp (by omega), t2]
        refine ⟨nat_in (by omega) (by decide), (e_take5 (d := d) (m0 := m) hb w1 f1 C1 (by omega) (hch p (by omega))).to ?_⟩
        rintro r m2 ⟨v, rfl, w2, f2, h⟩
        rcases h with ⟨hv, S2, e2, hS2⟩ | ⟨hv, e2⟩
        · cases hv
          rw [MO_ss hpe e2] at hO
          refine ⟨1, rfl, fun _ => ?_, fun z => absurd z (by decide)⟩
          rw [nI_1]
          exact ih (p + 1) S2 m2 (by omega) (by omega) (by have := xst_len e2; dsimp only at this; omega) w2 f2 hS2 hO
        · cases hv
          rw [ep_s hpe, MO_f e2] at hO
          refine ⟨0, rfl, fun z => absurd rfl z, fun _ => ⟨w2, f2, fun q2 h2 => ?_, fun S2 h2 => ?_⟩⟩
          · rw [h2] at hO; cases hO; exact ⟨rfl, by omega⟩
          · rw [h2] at hO; cases hO
  have e00 : (0 : Int32).toNatClampNeg = 0 := rfl
  have eb : vp_nar .boolean (0 : Int32) = 0 := rfl
  refine v_X5_compile (d := d + 3) (Ru_of hb) ?_
  rw [e00, eb]
  have wm : WT (uI (uI (uI (uI (uI (uI m b0 4 (0 : Int32)) b0 5 (0 : Int32)) b0 6 (0 : Int32)) b0 7 (0 : Int32)) b0 8 (1 : Int32)) (b0 + 4) 0 (0 : Int32)) := wRf hb (wR_n hb (wR_n hb (wR_6 hb (wR_5 hb (wR_4 hb wt (by decide) (by decide)) (by decide) (by decide)) (by decide) (by decide)) (Or.inl rfl)) (Or.inr rfl))
  have fm : Fx (RB b0) m (uI (uI (uI (uI (uI (uI m b0 4 (0 : Int32)) b0 5 (0 : Int32)) b0 6 (0 : Int32)) b0 7 (0 : Int32)) b0 8 (1 : Int32)) (b0 + 4) 0 (0 : Int32)) := fRa hb (fR hb (fR hb (fR hb (fR hb (fR hb Fx.rf (by omega)) (by omega)) (by omega)) (by omega)) (by omega)) (Or.inr (Or.inr rfl))
  have C0 : RX b0 ((true, 0, [false]), [], []) (uI (uI (uI (uI (uI (uI m b0 4 (0 : Int32)) b0 5 (0 : Int32)) b0 6 (0 : Int32)) b0 7 (0 : Int32)) b0 8 (1 : Int32)) (b0 + 4) 0 (0 : Int32)) := ⟨(u_ne (by omega)).trans u_eq, (u_ne (by omega)).trans ((u_ne (by omega)).trans u_eq), by decide, fun z => absurd z (by decide), ⟨(u_ne (by omega)).trans ((u_ne (by omega)).trans ((u_ne (by omega)).trans ((u_ne (by omega)).trans ((u_ne (by omega)).trans u_eq)))), fun i hi => absurd hi (Nat.not_lt_zero i), (u_ne (by omega)).trans ((u_ne (by omega)).trans ((u_ne (by omega)).trans ((u_ne (by omega)).trans u_eq))), fun i hi => absurd hi (Nat.not_lt_zero i)⟩, 0, rfl, by decide, (u_ne (by omega)).trans ((u_ne (by omega)).trans ((u_ne (by omega)).trans u_eq)), fun i hi => by
    have : i = 0 := by omega
    subst this
    exact u_eq⟩
  generalize uI (uI (uI (uI (uI (uI m b0 4 (0 : Int32)) b0 5 (0 : Int32)) b0 6 (0 : Int32)) b0 7 (0 : Int32)) b0 8 (1 : Int32)) (b0 + 4) 0 (0 : Int32) = m1 at wm fm C0 ⊢
  have h11 : m1.1 1 1 = nI t := (fm.at (a := 1) (k := 1) (by unfold RB; omega)).trans ht
  rw [h11]
  refine ⟨fun _ => ?_, fun q => absurd ((nI_eq (a := t) (b := 0) (by omega) (by decide)).mp q) ht0⟩
  rw [minT_40 ht80]
  exact L 81 0 ((true, 0, [false]), [], []) m1 (by omega) (Nat.zero_le _) (Nat.le_refl _) wm fm C0 hO0
end RCV
end
section
section RCW
variable {ad : Nat → Nat} {d b0 : Nat} {m m0 : Wm}
/-- the rule in force P, the other one Q -/
def RuR (m : Wm) (P Q : Nat) : Prop := m.2.2 3 1 = some P ∧ m.2.2 3 2 = some Q ∧ ((P = 5 ∧ Q = 10) ∨ (P = 10 ∧ Q = 5))
/-- what the class's rule() answers by O, and where it leaves the code -/
def ruC (m : Wm) (P Q t : Nat) (O : Nat ⊕ XS) (r : Option Value) (m' : Wm) : Prop := WT m' ∧ Fx (RS [0, 1]) m m' ∧ m'.1 1 1 = 0 ∧
  ((t = 0 ∧ r = some (.int 0) ∧ RuR m' Q P ∧ CodeX Q [] m') ∨
   (t ≠ 0 ∧ (∀ q, O = .inl q → r = some (.int (-1 - nI q)) ∧ RuR m' P Q ∧ ∀ b k, P ≤ b → b ≤ P + 4 → m'.1 b k = m.1 b k) ∧
     ∀ S, O = .inr S → r = some (.int 0) ∧ RuR m' Q P ∧ CodeX Q (relL 1 S.2.2 S.2.1).1 m' ∧ (relL 1 S.2.2 S.2.1).1 ≠ []))
theorem uR_at {a k : Nat} {o : Option Nat} : (uR m a k o).2.2 a k = o := if_pos ⟨rfl, rfl⟩
theorem uR_an {a k b j : Nat} {o : Option Nat} (h : ¬ (b = a ∧ j = k)) : (uR m a k o).2.2 b j = m.2.2 b j := if_neg h
theorem e_ruleC {t P Q : Nat} (wt : WT m) (hR : RuR m P Q) (ht : m.1 1 1 = nI t) (ht80 : t ≤ 80) (hch : ∀ k, k < t → (m.1 2 k).toInt ≤ 255) : Ct ad μX11_rule (d + 5) [.ref (ad 0)] m (ruC m P Q t (MO xst xok (m.1 2) (decide (40 < t)) (minT t 40) 0 ((true, 0, [false]), [], []))) := by
  generalize hO : MO xst xok (m.1 2) (decide (40 < t)) (minT t 40) 0 ((true, 0, [false]), [], []) = O
  obtain ⟨e1, e2, hPQ⟩ := hR
  have q1 : P = 5 ∨ P = 10 := by omega
  have q2 : Q = 5 ∨ Q = 10 := by omega
  have n3 : ∀ k, ¬ RB Q 3 k := fun k => by unfold RB; omega
  have hQP : (Q = 5 ∧ P = 10) ∨ (Q = 10 ∧ P = 5) := by omega
  have nP : ∀ b k, P ≤ b → b ≤ P + 4 → ¬ RB Q b k := fun b k h1 h2 => by unfold RB; omega
  have nQ : ∀ j k, ¬ (Q + j = 1 ∧ k = (1 : Nat)) := fun j k => by omega
  have nb : ∀ b k, P ≤ b → ¬ (b = 1 ∧ k = (1 : Nat)) := fun b k h1 => by omega
  have FIN : ∀ (v3 : Int32) (m2 : Wm), WT m2 → Fx (RB Q) m m2 → ((v3 = -1 ∧ ((t = 0 ∧ CodeX Q [] m2) ∨ (t ≠ 0 ∧ ∃ S, O = .inr S ∧ CodeX Q (relL 1 S.2.2 S.2.1).1 m2 ∧ (relL 1 S.2.2 S.2.1).1 ≠ []))) ∨ (t ≠ 0 ∧ ∃ q, O = .inl q ∧ q ≤ 40 ∧ v3 = nI q)) →
      ∃ v : Int32, some (Value.int v3) = some (.int v) ∧ ((v = (-1 : Int32) → (∃ r4, (uI m2 1 1 (0 : Int32)).2.2 3 1 = some r4 ∧ Ru r4 ∧ (∃ r5, (uI m2 1 1 (0 : Int32)).2.2 3 2 = some r5 ∧ Ru r5 ∧ ruC m P Q t O (some (.int (0 : Int32))) (uR (uR (uI m2 1 1 (0 : Int32)) 3 1 (some r5)) 3 2 (some r4))))) ∧ (¬ v = (-1 : Int32) → ruC m P Q t O (some (.int ((-1 : Int32) - v))) (uI m2 1 1 (0 : Int32)))) := by
    intro v3 m2 w2 f2 h
    have w10 : WT (uI m2 1 1 (0 : Int32)) := w2.t rfl (by decide) (by decide)
    have f2' : Fx (RS [0, 1]) m m2 := (Fx.rf (S := RS [0, 1])).tr f2 (fun a k h => RS_sub (l1 := [1]) rfl a k (RB_1 q2 a k h))
    have f10 : Fx (RS [0, 1]) m (uI m2 1 1 (0 : Int32)) := f2'.i rfl
    have r1 : m2.2.2 3 1 = some P := ((f2 3 1 (n3 1)).2.2).trans e1
    have r2 : m2.2.2 3 2 = some Q := ((f2 3 2 (n3 2)).2.2).trans e2
    refine ⟨v3, rfl, fun hv => ⟨P, r1, Ru_of q1, Q, r2, Ru_of q2, (w10.rR (by decide) q2).rR (by decide) q1, (f10.r rfl).r rfl, rfl, ?_⟩, fun hv => ⟨w10, f10, rfl, ?_⟩⟩
    · have hR2 : RuR (uR (uR (uI m2 1 1 (0 : Int32)) 3 1 (some Q)) 3 2 (some P)) Q P := ⟨(uR_an (fun q => absurd q.2 (by decide))).trans uR_at, uR_at, hQP⟩
      rcases h with ⟨-, ⟨h0, hX⟩ | ⟨h0, S, hS, hX, hn⟩⟩ | ⟨h0, q, hq, q40, e⟩
      · exact Or.inl ⟨h0, rfl, hR2, (if_neg (nQ 0 4)).trans hX.1, hX.2.1.k (fun k => if_neg (nQ 1 k)), hX.2.2⟩
      · refine Or.inr ⟨h0, fun q e => (by rw [hS] at e; cases e), fun S' e => ?_⟩
        rw [hS] at e
        cases e
        exact ⟨rfl, hR2, ⟨(if_neg (nQ 0 4)).trans hX.1, hX.2.1.k (fun k => if_neg (nQ 1 k)), hX.2.2⟩, hn⟩
      · exact absurd (hv.symm.trans e) (m1_ne q (Nat.lt_of_le_of_lt q40 (by decide)))
    · rcases h with ⟨h0, -⟩ | ⟨h0, q, hq, q40, e⟩
      · exact absurd h0 hv
      · refine Or.inr ⟨h0, fun q' e' => ?_, fun S e' => (by rw [hq] at e'; cases e')⟩
        rw [hq] at e'
        cases e'
        exact ⟨by rw [e], ⟨r1, r2, hPQ⟩, fun b k h1 h2 => (if_neg (nb b k h1)).trans (f2.at (nP b k h1 h2))⟩
  refine v_X11_rule (d := d + 4) ⟨Q, e2, Ru_of q2, ?_⟩
  by_cases ht0 : t = 0
  · subst ht0
    have e00 : (0 : Int32).toNatClampNeg = 0 := rfl
    have eb : vp_nar .boolean (0 : Int32) = 0 := rfl
    refine v_X5_compile (d := d + 3) (Ru_of q2) ⟨fun c => absurd ?_ c, fun _ => FIN (-1) _ ?_ ?_ (Or.inl ⟨rfl, Or.inl ⟨rfl, ?_, fun i hi => absurd hi (Nat.not_lt_zero i), by decide⟩⟩)⟩
    · have h : ∀ k, (uI (uI (uI (uI (uI (uI m Q 4 (0 : Int32)) Q 5 (0 : Int32)) Q 6 (0 : Int32)) Q 7 (0 : Int32)) Q 8 (1 : Int32)) (Q + 4) (0 : Int32).toNatClampNeg (vp_nar .boolean (0 : Int32))).1 1 k = m.1 1 k := fun k => (u_ne (by omega)).trans ((u_ne (by omega)).trans ((u_ne (by omega)).trans ((u_ne (by omega)).trans ((u_ne (by omega)).trans (u_ne (by omega))))))
      exact (h 1).trans ht
    · exact wRf q2 (wR_n q2 (wR_n q2 (wR_6 q2 (wR_5 q2 (wR_4 q2 wt (by decide) (by decide)) (by decide) (by decide)) (by decide) (by decide)) (Or.inl rfl)) (Or.inr rfl))
    · exact fRa q2 (fR q2 (fR q2 (fR q2 (fR q2 (fR q2 Fx.rf (by omega)) (by omega)) (by omega)) (by omega)) (by omega)) (Or.inr (Or.inr rfl))
    · exact (u_ne (by omega)).trans ((u_ne (by omega)).trans ((u_ne (by omega)).trans ((u_ne (by omega)).trans ((u_ne (by omega)).trans u_eq))))
  · refine (e_comp5 (d := d) q2 wt ht ht80 ht0 hch).to ?_
    rintro r m2 ⟨w2, f2, hq, hS⟩
    rw [hO] at hq hS
    cases O with
    | inl q =>
      obtain ⟨rfl, q40⟩ := hq q rfl
      exact FIN _ m2 w2 f2 (Or.inr ⟨ht0, q, rfl, q40, rfl⟩)
    | inr S =>
      obtain ⟨rfl, hX, hl, hn⟩ := hS S rfl
      exact FIN _ m2 w2 f2 (Or.inl ⟨rfl, Or.inr ⟨ht0, S, rfl, ⟨hX.1, hX.2.1, hl⟩, hn⟩⟩)
end RCW
/-! a rule's value leans on the signs that are read alone -/
section TCH
variable {tx tb : Nat → Int32} {e : Nat} {lt : Int32 → Int32}
theorem hr_ch (h : ∀ k, k < e → tx k = tb k) : hrF tx e = hrF tb e := funext fun p => by
  unfold hrF
  by_cases hp : p < e
  · rw [if_pos hp, if_pos hp, h p hp]
  · rw [if_neg hp, if_neg hp]
theorem pass_ch (h : hrF tx e = hrF tb e) : passF tx e = passF tb e := funext fun c => funext fun s => by unfold passF; rw [h]
theorem need_ch (h : hrF tx e = hrF tb e) : needF tx e = needF tb e := funext fun c => funext fun s => by unfold needF; rw [pass_ch h]
theorem num_ch (h : hrF tx e = hrF tb e) : ∀ k v p, numF tx e k v p = numF tb e k v p := by
  intro k
  induction k with
  | zero => intro v p; rfl
  | succ k ih =>
    intro v p
    show (if 48 ≤ hrF tx e p ∧ hrF tx e p ≤ 57 then numF tx e k (10 * v + hrF tx e p - 48) (p + 1) else (v, p)) = (if 48 ≤ hrF tb e p ∧ hrF tb e p ≤ 57 then numF tb e k (10 * v + hrF tb e p - 48) (p + 1) else (v, p))
    rw [h, ih]
theorem loop_ch {c1 c2 : Int32} {op : Bool → Int32 → Int32 → Int32} {g : Sp → Int32 × Sp} (h : hrF tx e = hrF tb e) : ∀ k acc s, loopF tx e c1 c2 op g k acc s = loopF tb e c1 c2 op g k acc s := by
  intro k
  induction k with
  | zero => intro acc s; rfl
  | succ k ih =>
    intro acc s
    show (if s.2 = -1 ∧ (hrF tx e s.1 = c1 ∨ hrF tx e s.1 = c2) then loopF tx e c1 c2 op g k (op (decide (hrF tx e s.1 = c1)) acc (g (s.1 + 1, s.2)).1) (g (s.1 + 1, s.2)).2 else (acc, s)) = (if s.2 = -1 ∧ (hrF tb e s.1 = c1 ∨ hrF tb e s.1 = c2) then loopF tb e c1 c2 op g k (op (decide (hrF tb e s.1 = c1)) acc (g (s.1 + 1, s.2)).1) (g (s.1 + 1, s.2)).2 else (acc, s))
    rw [h, ih]
theorem prF_ch (h0 : ∀ k, k < e → tx k = tb k) : ∀ n kd dp s, prF tx e lt n kd dp s = prF tb e lt n kd dp s := by
  have h := hr_ch h0
  intro n
  induction n with
  | zero => intro kd dp s; rfl
  | succ n ih =>
    have E : ∀ kd dp, prF tx e lt n kd dp = prF tb e lt n kd dp := fun kd dp => funext (ih kd dp)
    intro kd dp s
    match kd with
    | 0 =>
      show thgF tx e lt (prF tx e lt n 0 dp) (prF tx e lt n 3 (dp + 1)) dp s = thgF tb e lt (prF tb e lt n 0 dp) (prF tb e lt n 3 (dp + 1)) dp s
      rw [E, E]
      unfold thgF
      rw [pass_ch h, need_ch h, num_ch h, h]
    | 1 =>
      show loopF tx e 42 47 opM (prF tx e lt n 0 dp) 81 (prF tx e lt n 0 dp s).1 (prF tx e lt n 0 dp s).2 = loopF tb e 42 47 opM (prF tb e lt n 0 dp) 81 (prF tb e lt n 0 dp s).1 (prF tb e lt n 0 dp s).2
      rw [E, loop_ch h]
    | 2 =>
      show loopF tx e 43 45 opA (prF tx e lt n 1 dp) 81 (prF tx e lt n 1 dp s).1 (prF tx e lt n 1 dp s).2 = loopF tb e 43 45 opA (prF tb e lt n 1 dp) 81 (prF tb e lt n 1 dp s).1 (prF tb e lt n 1 dp s).2
      rw [E, loop_ch h]
    | k + 3 =>
      show cmpF tx e (prF tx e lt n 2 dp) (prF tx e lt n 2 dp s) = cmpF tb e (prF tb e lt n 2 dp) (prF tb e lt n 2 dp s)
      rw [E]
      unfold cmpF
      rw [pass_ch h]
end TCH
end
section
/-! THE RULE: both sides -/
/-- the rule in force is the same on both sides: the class's code comes to what the model's text comes to -/
def RuK (m : Wm) : Prop := ∃ P Q, RuR m P Q ∧ ∃ cl z, CodeX P cl m ∧ m.1 187 27 = nI z ∧ z ≤ 40 ∧ ((z = 0 ∧ cl = []) ∨ (z ≠ 0 ∧ cl ≠ [] ∧ ∀ lt, evR lt cl [] = some [(prF (m.1 200) z lt 164 3 0 (0, -1)).1]))
/-- from K to K' over rule() -/
def RLH (K K' : Wm → Prop) : Prop := ∀ m m1 m2, InvK K m → WT m1 → WT m2 → Fx (RS [0, 1]) m m1 → Fx (RS [20, 21, 22, 48, 28]) m1 m2 → (RuK m → RuK m2) → K' m2
theorem rg_1 {b0 j k : Nat} (hb : b0 = 5 ∨ b0 = 10) (hj : j = 0 ∨ j = 1) : rg (b0 + j) k = 1 := by
  rcases hb with rfl | rfl <;> rcases hj with rfl | rfl <;> rfl
theorem byte_id {x : Int32} (h0 : 0 ≤ x.toInt) (h1 : x.toInt ≤ 127) : vp_nar .byte x = x := by
  obtain ⟨j, hj, rfl⟩ := zn_of h0
  rw [nI_toInt hj] at h1
  have h : ∀ k : Fin 128, vp_nar .byte (nI k.val) = nI k.val := by decide +kernel
  exact h ⟨j, by omega⟩
/-- a text that is taken has signs below 128 alone -/
theorem MO_all {tx : Nat → Int32} {big : Bool} {S' : XS} : ∀ (k p : Nat) (S : XS), MO xst xok tx big k p S = .inr S' → ∀ j, p ≤ j → j < p + k → 0 ≤ (tx j).toInt ∧ (tx j).toInt ≤ 127 := by
  intro k
  induction k with
  | zero => intro p S _ j h1 h2; omega
  | succ k ih =>
    intro p S h j h1 h2
    cases e : xst (tx p) S with
    | none => rw [MO_f e] at h; cases h
    | some S2 =>
      rw [MO_s e] at h
      by_cases hj : j = p
      · subst hj
        by_cases q : (tx j).toInt < 0 ∨ 128 ≤ (tx j).toInt
        · obtain ⟨⟨w, dg, fs⟩, cd, wt⟩ := S
          rw [xst_none (rst_no q)] at e
          cases e
        · omega
      · exact ih (p + 1) S2 h j (by omega) (by omega)
theorem xok_1 {dg : Nat} {f : Bool} {cd wt : List Int32} : xok ((false, dg, [f]), cd, wt) = true := decide_eq_true (p := false = false ∧ [f].length = 1) ⟨rfl, rfl⟩
section RUB
variable {ad : Nat → Nat} {d : Nat} {K K' : Wm → Prop}
theorem os_rule (hRu : ∀ m, K m → ∃ P Q, RuR m P Q) (hR : RLH K K') : Both ad d μX11_rule μX12_rule [] (InvK K) (InvK K') := fun m I => by
  have IK := I
  obtain ⟨w, I1, k0⟩ := I
  have I0 := I1
  obtain ⟨h1, h2, h3, h4, h5⟩ := I0
  obtain ⟨P, Q, hPQ⟩ := hRu m k0
  have hP : P = 5 ∨ P = 10 := by have := hPQ.2.2; omega
  have hQ : Q = 5 ∨ Q = 10 := by have := hPQ.2.2; omega
  obtain ⟨t, et, -, -, t80, -⟩ := w.nat (a := 1) (k := 1) rfl (by decide)
  have ht14 : m.1 187 14 = nI t := h2.1.symm.trans et
  have hlt : ∀ k, k < t → k < (m.1 1 1).toInt := fun k hk => by rw [et, nI_toInt (by omega)]; omega
  have hch : ∀ k, k < t → (m.1 2 k).toInt ≤ 255 := fun k hk => by
    rcases h2.2 k (hlt k hk) with ⟨a1, a2, a3⟩ | ⟨-, -, a⟩
    · rw [a3]; omega
    · exact a
  have e40 : minT t 40 ≤ 40 := by unfold minT; split <;> omega
  have ett : minT t 40 ≤ t := by unfold minT; split <;> omega
  refine (e_ruleC (d := d + 295) w hPQ et (by omega) hch).to ?_
  rintro r m1 ⟨w1, f1, z11, hC⟩
  have g195 : m1.1 195 = m.1 195 := funext fun k => f1.at (nRS (ρ := 21) rfl rfl)
  have k14 : m1.1 187 14 = nI t := (f1.at (nRS (ρ := 21) rfl rfl)).trans ht14
  have hM := e_ruleM (ad := ad) (d := d + 132) w1 k14 (by omega)
  rw [g195] at hM
  have D0 := fun lt O hO => (des_rel (lt := lt) (tx := m.1 195) (e := minT t 40) (big := decide (40 < t)) (by omega) 164).2.2.2 0 0 [] [] [] O (by decide) rfl (Nat.zero_le _) (by omega) trivial hO
  have s0 : ∃ s, (prF (m.1 195) (minT t 40) (fun _ => 0) 164 3 0 (0, -1)).2 = s := ⟨_, rfl⟩
  obtain ⟨s, hs⟩ := s0
  rw [hs] at hM
  have fin : ∀ v : Int32, r = some (.int v) → (∀ r2 m2, ruM m1 t s r2 m2 → r2 = some (.int v) ∧ (RuK m → RuK m2)) → ∃ v : Int32, r = some (.int v) ∧ Ct ad μX12_rule (d + 300) [.ref (ad 187)] m1 (fun r m2 => r = some (.int v) ∧ InvK K' m2) := fun v hr h => ⟨v, hr, hM.to (fun r2 m2 hh => by
    have e11 : m2.1 1 1 = 0 := (hh.2.1.at (nRS (ρ := 0) rfl rfl)).trans z11
    exact ⟨(h r2 m2 hh).1, hh.1, ⟨(h1.fx f1 rfl).fx hh.2.1 rfl, TXI.zero (by rw [e11]; rfl) hh.2.2.1, IV.sd I1 f1 hh.2.1 rfl rfl⟩, hR m m1 m2 IK w1 hh.1 f1 hh.2.1 (h r2 m2 hh).2⟩)⟩
  -- the model's side of a rule that is kept
  have keep : ∀ m2, RuR m1 P Q → (∀ b k, P ≤ b → b ≤ P + 4 → m1.1 b k = m.1 b k) → Fx (RS [20, 21, 22, 28]) m1 m2 → RuK m → RuK m2 := fun m2 hR1 hc f2 hk => by
    obtain ⟨P', Q', hR', cl, z, hX, h27, hz, hv⟩ := hk
    have hPP : P' = P := Option.some.inj (hR'.1.symm.trans hPQ.1)
    subst hPP
    have g1 : ∀ j k, j = 0 ∨ j = 1 → m2.1 (P' + j) k = m.1 (P' + j) k := fun j k hj => (f2.at (nRS (ρ := 1) rfl (rg_1 hP hj))).trans (hc _ k (by omega) (by omega))
    have g200 : m2.1 200 = m.1 200 := funext fun k => (f2.at (nRS (ρ := 48) rfl rfl)).trans (f1.at (nRS (ρ := 48) rfl rfl))
    refine ⟨P', Q, ⟨((f2 3 1 (nRS (ρ := 1) rfl rfl)).2.2).trans hR1.1, ((f2 3 2 (nRS (ρ := 1) rfl rfl)).2.2).trans hR1.2.1, hPQ.2.2⟩, cl, z, ⟨(g1 0 4 (Or.inl rfl)).trans hX.1, hX.2.1.k (fun k => g1 1 k (Or.inr rfl)), hX.2.2⟩, ((f2.at (nRS (ρ := 48) rfl rfl)).trans (f1.at (nRS (ρ := 48) rfl rfl))).trans h27, hz, ?_⟩
    rw [g200]
    exact hv
  -- and of a new one
  have new : ∀ (cl : List Int32) (z : Nat) (m2 : Wm), RuR m1 Q P → CodeX Q cl m1 → Fx (RS [20, 21, 22, 48, 28]) m1 m2 → m2.1 187 27 = nI z → z ≤ 40 → (∀ k, k < z → m2.1 200 k = vp_nar .byte (m1.1 195 k)) → (∀ k, k < z → 0 ≤ (m.1 195 k).toInt ∧ (m.1 195 k).toInt ≤ 127) → ((z = 0 ∧ cl = []) ∨ (z ≠ 0 ∧ cl ≠ [] ∧ ∀ lt, evR lt cl [] = some [(prF (m.1 195) z lt 164 3 0 (0, -1)).1])) → RuK m2 := fun cl z m2 hR1 hX f2 h27 hz h200 hby hv => by
    have g1 : ∀ j k, j = 0 ∨ j = 1 → m2.1 (Q + j) k = m1.1 (Q + j) k := fun j k hj => f2.at (nRS (ρ := 1) rfl (rg_1 hQ hj))
    refine ⟨Q, P, ⟨((f2 3 1 (nRS (ρ := 1) rfl rfl)).2.2).trans hR1.1, ((f2 3 2 (nRS (ρ := 1) rfl rfl)).2.2).trans hR1.2.1, hR1.2.2⟩, cl, z, ⟨(g1 0 4 (Or.inl rfl)).trans hX.1, hX.2.1.k (fun k => g1 1 k (Or.inr rfl)), hX.2.2⟩, h27, hz, ?_⟩
    rcases hv with hv | ⟨v1, v2, v3⟩
    · exact Or.inl hv
    · refine Or.inr ⟨v1, v2, fun lt => ?_⟩
      rw [v3 lt, prF_ch (tx := m2.1 200) (tb := m.1 195) (fun k hk => (h200 k hk).trans ((congrArg (vp_nar .byte) (congrFun g195 k)).trans (byte_id (hby k hk).1 (hby k hk).2)))]
  rcases hC with ⟨h0, hr, hR1, hX⟩ | ⟨h0, hq, hS⟩
  · exact fin 0 hr (fun r2 m2 hh => by
      obtain ⟨a1, a2, a3⟩ := hh.2.2.2.2.2 (Or.inl h0)
      exact ⟨a1, fun _ => new [] t m2 hR1 hX hh.2.1 a2 (by omega) a3 (fun k hk => by omega) (Or.inl ⟨h0, rfl⟩)⟩)
  · have eO : MO xst xok (m.1 2) (decide (40 < t)) (minT t 40) 0 ((true, 0, [false]), [], []) = MO xst xok (m.1 195) (decide (40 < t)) (minT t 40) 0 ((true, 0, [false]), [], []) := MO_ch (fun _ _ S h => xst_ch S h) (fun j hj => h2.2 j (hlt j (by omega)))
    rw [eO] at hq hS
    generalize hO : MO xst xok (m.1 195) (decide (40 < t)) (minT t 40) 0 ((true, 0, [false]), [], []) = O at hq hS
    have D := D0 (fun _ => 0) O hO
    have D1 := fun lt => D0 lt O hO
    generalize prF (m.1 195) (minT t 40) (fun _ => 0) 164 3 0 (0, -1) = R at hs D
    obtain ⟨v0, p, u⟩ := R
    have hs' : (p, u) = s := hs
    subst hs'
    by_cases hu : u = -1
    · obtain ⟨a, b, dg, fs, cd, wt, ⟨f, rfl⟩, cv, c2, c3, c4⟩ := D.2 hu
      dsimp only at a b c2 c3 c4 cv
      by_cases hp : p < t
      · have hOp : O = .inl p := by
          rw [← c4]
          by_cases hpe : p < minT t 40
          · rw [ep_s hpe]
            refine MO_f ?_
            by_cases c41 : m.1 195 p = 41
            · rw [c41]; exact xst_none rst_p1
            · exact xst_none (rst_end (c2 hpe) (c3 hpe) c41)
          · rw [show minT t 40 - p = 0 by omega]
            refine MO_n (fun z => ?_)
            have hb := of_decide_eq_false z.1
            have : minT t 40 = t := by
              unfold minT
              split
              · rfl
              · omega
            omega
        obtain ⟨y1, y2, y3⟩ := hq p hOp
        exact fin (-1 - nI p) y1 (fun r2 m2 hh => by
          obtain ⟨a1, a2⟩ := hh.2.2.2.2.1 h0 hu hp
          exact ⟨a1, keep m2 y2 y3 a2⟩)
      · have hpe : ¬ p < minT t 40 := by omega
        have hb : decide (40 < t) = false := decide_eq_false (fun z => by omega)
        have hOr : O = .inr ((false, dg, [f]), cd, wt) := by
          rw [← c4, show minT t 40 - p = 0 by omega]
          exact MO_e ⟨hb, xok_1⟩
        obtain ⟨y1, y2, y3, y4⟩ := hS _ hOr
        dsimp only at y3 y4
        have h40 : minT t 40 = t := by unfold minT; split <;> omega
        refine fin 0 y1 (fun r2 m2 hh => ?_)
        obtain ⟨a1, a2, a3⟩ := hh.2.2.2.2.2 (Or.inr ⟨hu, hp⟩)
        refine ⟨a1, fun _ => new _ t m2 y2 y3 hh.2.1 a2 (by omega) a3 (fun k hk => MO_all _ _ _ (hO.trans hOr) k (Nat.zero_le _) (by omega)) (Or.inr ⟨h0, y4, fun lt => ?_⟩)⟩
        -- by every reading of the letters the run is the same one
        have E := D1 lt
        rw [← h40]
        generalize prF (m.1 195) (minT t 40) lt 164 3 0 (0, -1) = R' at E ⊢
        obtain ⟨v', p', u'⟩ := R'
        by_cases hu' : u' = -1
        · obtain ⟨a', b', dg', fs', cd', wt', ⟨f', rfl⟩, cv', c2', c3', c4'⟩ := E.2 hu'
          dsimp only at a' b' c2' c3' c4' cv' ⊢
          rw [hOr] at c4'
          have hp' : ¬ p' < minT t 40 := fun hlt' => by
            rw [ep_s hlt'] at c4'
            by_cases c41 : m.1 195 p' = 41
            · rw [MO_f (by rw [c41]; exact xst_none rst_p1)] at c4'; cases c4'
            · rw [MO_f (xst_none (rst_end (c2' hlt') (c3' hlt') c41))] at c4'; cases c4'
          rw [show minT t 40 - p' = 0 by omega, MO_e ⟨hb, xok_1⟩] at c4'
          have e1 := Sum.inr.inj c4'
          have ecd : cd' = cd := congrArg (fun X : XS => X.2.1) e1
          have ewt : wt' = wt := congrArg (fun X : XS => X.2.2) e1
          obtain ⟨sg, pd, g1, g2, g3, g4⟩ := cv'
          rw [ecd] at g1
          rw [ewt] at g2
          rw [g1, g2, relL_fl pd sg [] [] g3 trivial]
          dsimp only
          rw [List.append_nil]
          exact g4 []
        · obtain ⟨q, hq', e1, e2⟩ := E.1 hu'
          rw [hOr] at e1
          cases e1
    · obtain ⟨q, hq', e1, e2⟩ := D.1 hu
      have e2' : u = nI q := e2
      obtain ⟨y1, y2, y3⟩ := hq q e1
      exact fin (-1 - nI q) y1 (fun r2 m2 hh => by
        obtain ⟨a1, a2⟩ := hh.2.2.2.1 h0 hu
        exact ⟨by rw [a1]; show some (Value.int (-1 - u)) = _; rw [e2'], keep m2 y2 y3 a2⟩)
end RUB
end
section
/-! PLAN, LAW AND WHAT IS KEPT, BETWEEN TWO CALLS -/
/-- the plan of the class at P tells the model's -/
def PlX (P : Nat) (m : Wm) : Prop := ∃ (n R g : Nat) (sn : Nat → Nat), m.1 3 3 = nI n ∧ n ≤ 8 ∧ m.1 P 5 = nI R ∧ m.1 187 11 = nI R ∧ m.1 P 6 = nI g ∧ m.1 187 10 = nI g ∧ R ≤ 12 ∧ g ≤ 40 ∧ (R = 0 → g = 0) ∧ GRel n (R - 1) g (m.1 194) (m.1 (P + 1)) (m.1 (P + 2)) (m.1 (P + 3)) sn ∧ SRel (R - 1) g sn ∧ ∀ ρ, ρ < R → m.1 (P + 4) ρ = nI (sn ρ)
def PlR (m : Wm) : Prop := ∃ P Q, PRF m P Q ∧ PlX P m
def LwR (m : Wm) : Prop := ∀ k, k < 5 → m.1 4 k = m.1 193 k
def KpR (c : Nat) (m : Wm) : Prop := ∃ t, t ≤ c ∧ m.1 187 53 = nI t ∧ ∀ i, i < 2 → (∃ s, s ≤ t ∧ m.1 216 i = nI s) ∧ (m.1 (173 + 7 * i) 4 ≠ 0 ↔ m.1 215 i ≠ 0 ∧ m.1 216 i = m.1 187 53) ∧ (m.1 (173 + 7 * i) 4 ≠ 0 → ∀ k, k < 5 → m.1 (173 + 7 * i + 6) k = m.1 214 (71 * i + 65 + k))
def KB (c : Nat) (m : Wm) : Prop := PlR m ∧ LwR m ∧ KpR c m
/-- where the plan is -/
def NxR (m : Wm) : Prop := ∃ nr R, m.1 0 11 = nI nr ∧ m.1 187 12 = nI nr ∧ m.1 187 11 = nI R ∧ R ≤ 12 ∧ (nr = 0 ∨ nr < R)
theorem NxR.fx {m m' : Wm} {S : List Nat} (h : NxR m) (f : Fx (RS S) m m') (e44 : S.elem 44 = false) (e52 : S.elem 52 = false) (e25 : S.elem 25 = false) : NxR m' := by
  obtain ⟨nr, R, h1, h2, h3, h4⟩ := h
  exact ⟨nr, R, (f.at (nRS (ρ := 44) e44 rfl)).trans h1, (f.at (nRS (ρ := 52) e52 rfl)).trans h2, (f.at (nRS (ρ := 25) e25 rfl)).trans h3, h4⟩
/-- as TR, and where the plan is stands -/
def TRN (A B : List Nat) (K K' : Wm → Prop) : Prop := ∀ {m m1 m2 : Wm}, Fx (RS A) m m1 → Fx (RS B) m1 m2 → (NxR m → NxR m2) → K m → K' m2
theorem TRN.use {A B S1 S2 : List Nat} {K K' : Wm → Prop} {m m1 m2 : Wm} (h : TRN A B K K') (f1 : Fx (RS S1) m m1) (f2 : Fx (RS S2) m1 m2) (hn : NxR m → NxR m2) (k : K m) (e1 : (S1.all fun x => A.elem x) = true) (e2 : (S2.all fun x => B.elem x) = true) : K' m2 := h (Fx.tr Fx.rf f1 (RS_sub e1)) (Fx.tr Fx.rf f2 (RS_sub e2)) hn k
theorem GRel.up {n n' r g : Nat} {np fi se th : Nat → Int32} {sn : Nat → Nat} (h : GRel n r g np fi se th sn) (hn : n ≤ n') : GRel n' r g np fi se th sn := fun j hj => by
  obtain ⟨a, b, c, ⟨d1, d2⟩, ⟨e1, e2⟩, f, g, i⟩ := h j hj
  exact ⟨a, b, c, ⟨d1, by omega⟩, ⟨e1, by omega⟩, f, g, i⟩
theorem GRel.cg {n r g : Nat} {np fi se th np2 fi2 se2 th2 : Nat → Int32} {sn : Nat → Nat} (h : GRel n r g np fi se th sn) (h0 : ∀ k, k < 4 * g → np2 k = np k) (h1 : ∀ j, j < g → fi2 j = fi j) (h2 : ∀ j, j < g → se2 j = se j) (h3 : ∀ j, j < g → th2 j = th j) : GRel n r g np2 fi2 se2 th2 sn := fun j hj => by
  obtain ⟨a, b, c, e, f, g', i, ρ, k1, k2, k3⟩ := h j hj
  rw [h1 j hj, h2 j hj, h3 j hj, h0 (4 * j) (by omega), h0 (4 * j + 1) (by omega), h0 (4 * j + 2) (by omega), h0 (4 * j + 3) (by omega)]
  exact ⟨a, b, c, e, f, g', i, ρ, k1, k2, k3⟩
theorem OG.gr {n R g : Nat} {A B C T : Nat → Nat} {np fi se th : Nat → Int32} (h : OG n R g A B C T) (hn : n ≤ 8) (c : CRel A B g fi se th) (mr : MRel A B C g np) : GRel n (R - 1) g np fi se th T := fun j hj => by
  obtain ⟨a1, a2, a3, a4, a5, a6⟩ := h.1 j hj
  obtain ⟨c1, c2, c3⟩ := c j hj
  obtain ⟨m1, m2, m3, m4⟩ := mr j hj
  have tA : (nI (A j)).toInt = A j := nI_toInt (by omega)
  have tB : (nI (B j)).toInt = B j := nI_toInt (by omega)
  refine ⟨m1.trans c1.symm, m2.trans c2.symm, m3.trans c3.symm, ?_, ?_, fun q => ?_, ?_, C j, by omega, m4, a5, fun q => a6 (by omega)⟩
  · rw [c1, tA]; exact ⟨by omega, by omega⟩
  · rw [c2, tB]; exact ⟨by omega, by omega⟩
  · rw [c1, c2] at q
    exact a3 ((nI_eq (a := A j) (b := B j) (by omega) (by omega)).mp q)
  · rw [c3]; exact ⟨by decide, by decide⟩
theorem OG.sr {n R g : Nat} {A B C T : Nat → Nat} (h : OG n R g A B C T) (hR : 1 ≤ R) : SRel (R - 1) g T := ⟨h.2.2.1 (by omega), fun ρ hρ => (h.2.1 ρ (by omega)).2 (by omega), (h.2.1 (R - 1) (by omega)).1⟩
theorem cStep_ge {f : Nat → Nat} {n z r k : Nat} {S : CrS} : S.1 ≤ (cStep f n z r k S).1 := by
  unfold cStep
  by_cases h : f k < n ∧ f (z - 1 - k) < n
  · rw [if_pos h]; dsimp only; omega
  · rw [if_neg h]; omega
theorem cIn_mono {f : Nat → Nat} {n z r k : Nat} {S : CrS} : ∀ i, (cIn f n z r k S).1 ≤ (cIn f n z r (k + i) S).1 := by
  intro i
  induction i with
  | zero => exact Nat.le_refl _
  | succ i ih =>
    have h : cIn f n z r (k + (i + 1)) S = cStep f n z r (k + i) (cIn f n z r (k + i) S) := cIn_s
    rw [h]
    have := cStep_ge (f := f) (n := n) (z := z) (r := r) (k := k + i) (S := cIn f n z r (k + i) S)
    omega
theorem cOut_pos {n z : Nat} (hn : 2 ≤ n) (hz : z = n + n % 2) : ∀ r, 1 ≤ r → 1 ≤ (cOut n z r).1.1 := by
  intro r
  induction r with
  | zero => intro h; omega
  | succ r ih =>
    intro _
    by_cases h : r = 0
    · subst h
      have e0 : cOut n z 1 = (cIn (fun k => k) n z 0 (z / 2) ((0, (fun _ => 0), (fun _ => 0), (fun _ => 0)) : CrS), rotN z (fun k => k), updN (fun _ => 0) 0 0) := rfl
      have h1 : 1 ≤ (cIn (fun k => k) n z 0 (n % 2 + 1) ((0, (fun _ => 0), (fun _ => 0), (fun _ => 0)) : CrS)).1 := by
        rw [cIn_s]
        unfold cStep
        rw [if_pos ⟨by dsimp only; omega, by dsimp only; omega⟩]
        dsimp only
        omega
      have h2 := cIn_mono (f := fun k => k) (n := n) (z := z) (r := 0) (k := n % 2 + 1) (S := ((0, (fun _ => 0), (fun _ => 0), (fun _ => 0)) : CrS)) (z / 2 - (n % 2 + 1))
      rw [show n % 2 + 1 + (z / 2 - (n % 2 + 1)) = z / 2 by omega] at h2
      rw [e0]
      dsimp only
      omega
    · have h1 := ih (by omega)
      have h2 := (cIn_le (f := (cOut n z r).2.1) (n := n) (z := z) (r := r) (S := (cOut n z r).1) (z / 2)).1
      show 1 ≤ (cIn (cOut n z r).2.1 n z r (z / 2) (cOut n z r).1).1
      omega
theorem n7 {S : List Nat} (h : S.elem 7 = false) {b : Nat} (k : Nat) (h1 : 133 < b) (h2 : b < 146) : ¬ RS S b k := nRS h (rg_7 k h1 h2)
section KBB
variable {ad : Nat → Nat} {d c P Q : Nat} {m m' : Wm} {S : List Nat} {K0 K0' : Wm → Prop}
theorem PlX.fx (h : PlX P m) (hc : ∀ b k, P ≤ b → b ≤ P + 5 → m'.1 b k = m.1 b k) (h33 : m'.1 3 3 = m.1 3 3) (h11 : m'.1 187 11 = m.1 187 11) (h10 : m'.1 187 10 = m.1 187 10) (h194 : ∀ k, m'.1 194 k = m.1 194 k) : PlX P m' := by
  obtain ⟨n, R, g, sn, a1, a2, a3, a4, a5, a6, a7, a8, a9, b1, b2, b3⟩ := h
  exact ⟨n, R, g, sn, h33.trans a1, a2, (hc P 5 (by omega) (by omega)).trans a3, h11.trans a4, (hc P 6 (by omega) (by omega)).trans a5, h10.trans a6, a7, a8, a9, b1.cg (fun k _ => h194 k) (fun j _ => hc _ j (by omega) (by omega)) (fun j _ => hc _ j (by omega) (by omega)) (fun j _ => hc _ j (by omega) (by omega)), b2, fun ρ hρ => (hc _ ρ (by omega) (by omega)).trans (b3 ρ hρ)⟩
theorem PRF.fx (h : PRF m P Q) (f : Fx (RS S) m m') (e54 : S.elem 54 = false) : PRF m' P Q := ⟨(f 0 9 (nRS (ρ := 54) e54 rfl)).2.2.trans h.1, (f 0 10 (nRS (ρ := 54) e54 rfl)).2.2.trans h.2.1, h.2.2⟩
theorem PlR.fx (h : PlR m) (f : Fx (RS S) m m') (e7 : S.elem 7 = false) (e25 : S.elem 25 = false) (e41 : S.elem 41 = false) (e54 : S.elem 54 = false) (e55 : S.elem 55 = false) : PlR m' := by
  obtain ⟨P, Q, hR, X⟩ := h
  have hPQ := hR.2.2
  exact ⟨P, Q, hR.fx f e54, X.fx (fun b k h1 h2 => f.at (n7 e7 k (by omega) (by omega))) (f.at (nRS (ρ := 41) e41 rfl)) (f.at (nRS (ρ := 25) e25 rfl)) (f.at (nRS (ρ := 25) e25 rfl)) (fun k => f.at (nRS (ρ := 55) e55 rfl))⟩
theorem LwR.fx (h : LwR m) (f : Fx (RS S) m m') (e43 : S.elem 43 = false) (e47 : S.elem 47 = false) : LwR m' := fun k hk => by
  rw [f.at (a := 4) (k := k) (nRS (ρ := 43) e43 rfl), f.at (a := 193) (k := k) (nRS (ρ := 47) e47 rfl)]
  exact h k hk
theorem KpR.fx (h : KpR c m) (f : Fx (RS S) m m') (e13 : S.elem 13 = false) (e40 : S.elem 40 = false) (e45 : S.elem 45 = false) : KpR c m' := by
  obtain ⟨t, ht, h53, hi⟩ := h
  have q13 : ∀ b k, 173 ≤ b → b < 187 → m'.1 b k = m.1 b k := fun b k h1 h2 => f.at (nRS (ρ := 13) e13 (rg_13 k h1 h2))
  have q214 : ∀ k, m'.1 214 k = m.1 214 k := fun k => f.at (nRS (ρ := 40) e40 rfl)
  have q215 : ∀ k, m'.1 215 k = m.1 215 k := fun k => f.at (nRS (ρ := 40) e40 rfl)
  have q216 : ∀ k, m'.1 216 k = m.1 216 k := fun k => f.at (nRS (ρ := 40) e40 rfl)
  have q53 : m'.1 187 53 = m.1 187 53 := f.at (nRS (ρ := 45) e45 rfl)
  refine ⟨t, ht, q53.trans h53, fun i hi2 => ?_⟩
  obtain ⟨⟨s, hs, a1⟩, a2, a3⟩ := hi i hi2
  refine ⟨⟨s, hs, (q216 i).trans a1⟩, ?_, fun hz k hk => ?_⟩
  · rw [q13 (173 + 7 * i) 4 (by omega) (by omega), q215 i, q216 i, q53]; exact a2
  · rw [q13 (173 + 7 * i) 4 (by omega) (by omega)] at hz
    rw [q13 (173 + 7 * i + 6) k (by omega) (by omega), q214]; exact a3 hz k hk
theorem KpR.up (h : KpR c m) : KpR (c + 1) m := by
  obtain ⟨t, ht, r⟩ := h
  exact ⟨t, by omega, r⟩
theorem KB.kd (c : Nat) : KD (KB c) (KB (c + 1)) := by
  intro S1 S2 m m1 m2 f1 f2 k e1 e2
  obtain ⟨k1, k2, k3⟩ := k
  refine ⟨(k1.fx f1 ?_ ?_ ?_ ?_ ?_).fx f2 ?_ ?_ ?_ ?_ ?_, (k2.fx f1 ?_ ?_).fx f2 ?_ ?_, ((k3.fx f1 ?_ ?_ ?_).fx f2 ?_ ?_ ?_).up⟩
  all_goals first
    | exact all_ne (L := KL) e1 rfl
    | exact all_ne (L := KL) e2 rfl
/-- the regions of KB -/
def KLB : List Nat := [7, 13, 25, 40, 41, 43, 45, 47, 54, 55]
theorem KB.fd (c : Nat) {S1 S2 : List Nat} {m m1 m2 : Wm} (f1 : Fx (RS S1) m m1) (f2 : Fx (RS S2) m1 m2) (k : KB c m) (e1 : S1.all (fun x => !(KLB.elem x)) = true) (e2 : S2.all (fun x => !(KLB.elem x)) = true) : KB (c + 1) m2 := by
  obtain ⟨k1, k2, k3⟩ := k
  refine ⟨(k1.fx f1 ?_ ?_ ?_ ?_ ?_).fx f2 ?_ ?_ ?_ ?_ ?_, (k2.fx f1 ?_ ?_).fx f2 ?_ ?_, ((k3.fx f1 ?_ ?_ ?_).fx f2 ?_ ?_ ?_).up⟩
  all_goals first
    | exact all_ne (L := KLB) e1 rfl
    | exact all_ne (L := KLB) e2 rfl
theorem KB.lg (c : Nat) (hc : c < 1000) : LGH (KB c) (KB (c + 1)) := by
  intro m m1 m2 n st dg ln sd ar fr wp il sk I en n8 w1 w2 f1 f2 hF V L E e33
  obtain ⟨-, -, ⟨P, Q, hR, X⟩, lw, ⟨t, ht, h53, hi⟩⟩ := I
  obtain ⟨c1, c2, c3, c4, c5, c6, -⟩ := L
  obtain ⟨b1, b2, b3, b4, b5, -⟩ := E
  obtain ⟨V1, V2, V3, V4, V5, V6, V7⟩ := V
  have hPQ := hR.2.2
  have hR2 : PRF m2 P Q := (hR.fx f1 rfl).fx f2 rfl
  have q7 : ∀ b k, 133 < b → b < 146 → m2.1 b k = m1.1 b k := fun b k h1 h2 => f2.at (n7 rfl k h1 h2)
  have g53 : m1.1 187 53 = nI t := (f1.at (nRS (ρ := 45) rfl rfl)).trans h53
  have t53 : m2.1 187 53 = nI (t + 1) := by rw [b4, g53, nI_1]
  refine ⟨⟨P, Q, hR2, ?_⟩, (lw.fx f1 rfl rfl).fx f2 rfl rfl, t + 1, by omega, t53, fun i hi2 => ?_⟩
  · cases wp with
    | true =>
      have b5' : m2.1 187 10 = 0 ∧ m2.1 187 11 = 0 ∧ _ := b5
      have c6' : _ ∧ _ ∧ ∀ P, m.2.2 0 9 = some P → m1.1 P 5 = 0 ∧ m1.1 P 6 = 0 := c6
      obtain ⟨z5, z6⟩ := c6'.2.2 P hR.1
      exact ⟨sd, 0, 0, (fun _ => 0), e33, V2, (q7 P 5 (by omega) (by omega)).trans z5, b5'.2.1, (q7 P 6 (by omega) (by omega)).trans z6, b5'.1, by omega, by omega, fun _ => rfl, fun j hj => absurd hj (Nat.not_lt_zero j), ⟨rfl, fun ρ hρ => by omega, Nat.le_refl _⟩, fun ρ hρ => absurd hρ (Nat.not_lt_zero ρ)⟩
    | false =>
      have b5' : m2.1 187 10 = m1.1 187 10 ∧ m2.1 187 11 = m1.1 187 11 ∧ _ := b5
      have c6' : _ ∧ _ ∧ ∀ b k, 133 < b → b < 146 → m1.1 b k = m.1 b k := c6
      have q8 : ∀ b k, 133 < b → b < 146 → m2.1 b k = m.1 b k := fun b k h1 h2 => (q7 b k h1 h2).trans (c6'.2.2 b k h1 h2)
      obtain ⟨n', R, g, sn, a1, a2, a3, a4, a5, a6, a7, a8, a9, x1, x2, x3⟩ := X
      have enn : n' = n := (nI_eq (a := n') (b := n) (by omega) (by omega)).mp (a1.symm.trans en)
      have hfr := hF rfl
      exact ⟨sd, R, g, sn, e33, V2, (q8 P 5 (by omega) (by omega)).trans a3, b5'.2.1.trans ((f1.at (nRS (ρ := 25) rfl rfl)).trans a4), (q8 P 6 (by omega) (by omega)).trans a5, b5'.1.trans ((f1.at (nRS (ρ := 25) rfl rfl)).trans a6), a7, a8, a9, (x1.up (by omega)).cg (fun k _ => (f2.at (nRS (ρ := 55) rfl rfl)).trans (f1.at (nRS (ρ := 55) rfl rfl))) (fun j _ => q8 _ j (by omega) (by omega)) (fun j _ => q8 _ j (by omega) (by omega)) (fun j _ => q8 _ j (by omega) (by omega)), x2, fun ρ hρ => (q8 _ ρ (by omega) (by omega)).trans (x3 ρ hρ)⟩
  · obtain ⟨⟨s, hs, a1⟩, -, -⟩ := hi i hi2
    have z4 : m2.1 (173 + 7 * i) 4 = 0 := (f2.at (nRS (ρ := 13) rfl (rg_13 4 (by omega) (by omega)))).trans (c5 i hi2)
    have a216 : m2.1 216 i = nI s := (f2.at (nRS (ρ := 40) rfl rfl)).trans ((f1.at (nRS (ρ := 40) rfl rfl)).trans a1)
    refine ⟨⟨s, by omega, a216⟩, ⟨fun h => absurd z4 h, fun h => ?_⟩, fun h => absurd z4 h⟩
    have h2 := h.2
    rw [a216, t53] at h2
    have := (nI_eq (a := s) (b := t + 1) (by omega) (by omega)).mp h2
    omega
/-- K0, and plan, law, what is kept -/
def KX (K0 : Wm → Prop) (c : Nat) (m : Wm) : Prop := K0 m ∧ KB c m
theorem KX.kd {K0 K0' : Wm → Prop} (c : Nat) (h : KD K0 K0') : KD (KX K0 c) (KX K0' (c + 1)) := by
  intro S1 S2 m m1 m2 f1 f2 k e1 e2
  exact ⟨h f1 f2 k.1 e1 e2, KB.kd c f1 f2 k.2 e1 e2⟩
theorem KX.lg {K0 K0' : Wm → Prop} (c : Nat) (hc : c < 1000) (h : LGH (KX K0 c) K0') : LGH (KX K0 c) (KX K0' (c + 1)) := by
  intro m m1 m2 n st dg ln sd ar fr wp il sk I en n8 w1 w2 f1 f2 hF V L E e33
  exact ⟨h m m1 m2 n st dg ln sd ar fr wp il sk I en n8 w1 w2 f1 f2 hF V L E e33, KB.lg c hc m m1 m2 n st dg ln sd ar fr wp il sk ⟨I.1, I.2.1, I.2.2.2⟩ en n8 w1 w2 f1 f2 hF V L E e33⟩
theorem pl_fin {n e p st rd gm : Nat} {tx : Nat → Int32} {big : Bool} {us : Int32} {fi se th : Nat → Int32} {sn : Nat → Nat} (hst : st = 4 ∨ st = 5) (h33 : st = 4 → p < e → tx p ≠ 33) (h44 : p < e → tx p ≠ 44 ∧ tx p ≠ 59) :
    (p < e ∨ big = true → MO (pst n) pok tx big (e - p) p (st, rd, gm, us, fi, se, th, sn) = .inl p) ∧ (¬ p < e → big = false → MO (pst n) pok tx big (e - p) p (st, rd, gm, us, fi, se, th, sn) = .inr (st, rd, gm, us, fi, se, th, sn)) := by
  have hk : pok (st, rd, gm, us, fi, se, th, sn) = true := decide_eq_true hst
  have hN : p < e → pst n (tx p) (st, rd, gm, us, fi, se, th, sn) = none := fun hp => by
    obtain ⟨q1, q2⟩ := h44 hp
    rcases hst with rfl | rfl
    · rw [pst_4b (h33 rfl hp)]; exact pBr_n q2 q1
    · rw [pst_5b]; exact pBr_n q2 q1
  constructor
  · intro h
    by_cases hp : p < e
    · rw [ep_s hp]; exact MO_f (hN hp)
    · have hb : big = true := h.resolve_left hp
      rw [show e - p = 0 by omega]
      exact MO_n (fun q => by rw [hb] at q; exact absurd q.1 (by decide))
  · intro hp hb
    rw [show e - p = 0 by omega]
    exact MO_e ⟨hb, hk⟩
theorem minT_lt {t p : Nat} (hp : p ≤ minT t 76) : (p < t ↔ (p < minT t 76 ∨ decide (76 < t) = true)) := by
  unfold minT at hp ⊢
  by_cases h : t < 76
  · rw [if_pos h] at hp ⊢
    exact ⟨fun q => Or.inl q, fun q => q.elim id (fun q => by have := of_decide_eq_true q; omega)⟩
  · rw [if_neg h] at hp ⊢
    refine ⟨fun q => ?_, fun q => q.elim (fun q => by omega) (fun q => by have := of_decide_eq_true q; omega)⟩
    by_cases h2 : 76 < t
    · exact Or.inr (decide_eq_true h2)
    · left; omega
set_option maxHeartbeats 1000000 in
theorem ob_plan (hU : TRN [0, 7, 44, 54] [20, 21, 22, 25, 27, 52, 55] K0 K0') (c : Nat) : Both ad d μX11_plan μX12_plan [] (InvK (KX K0 c)) (InvK (KX K0' (c + 1))) := fun m I => by
  obtain ⟨w, I1, kz, ⟨P, Q, hR, X⟩, lw, kp⟩ := I
  have X0 := X
  obtain ⟨n, R, g, sn, hn, n8, -⟩ := X0
  have I0 := I1
  obtain ⟨h1, h2, h3, h4, h5⟩ := I0
  have hPQ := hR.2.2
  obtain ⟨t, et, -, -, t80, -⟩ := w.nat (a := 1) (k := 1) rfl (by decide)
  have ht14 : m.1 187 14 = nI t := h2.1.symm.trans et
  have hsd : m.1 187 1 = nI n := h3.symm.trans hn
  have he80 : minT t 76 ≤ 80 := by unfold minT; split <;> omega
  by_cases ht0 : t = 0
  · subst ht0
    refine (e_planC0 (d := d + 296) w hn et hR).to ?_
    rintro r m1 ⟨w1, f1, z11, rfl, hR1, z011, z5, z6⟩
    have k1 : m1.1 187 1 = nI n := (f1.at (nRS (ρ := 23) rfl rfl)).trans hsd
    have k14 : m1.1 187 14 = nI 0 := (f1.at (nRS (ρ := 21) rfl rfl)).trans ht14
    refine ⟨0, rfl, (e_planM (d := d + 295) w1 k1 n8 k14 (by omega)).to ?_⟩
    rintro r m2 ⟨r', g', np', p', w', -, hM0, w2, f2, z14, -, -, hE⟩
    obtain ⟨rfl, rfl, rfl, rfl⟩ := hM0 rfl
    obtain ⟨rfl, k10, k11, k12, -⟩ := hE rfl (by omega)
    have e11 : m2.1 1 1 = 0 := (f2.at (nRS (ρ := 0) rfl rfl)).trans z11
    refine ⟨rfl, w2, ⟨Or.inl (by rw [k11]; rfl), TXI.zero (by rw [e11]; rfl) z14, IV.sd I1 f1 f2 rfl rfl⟩, hU.use f1 f2 (fun _ => ⟨0, 0, (f2.at (nRS (ρ := 44) rfl rfl)).trans z011, k12, k11, by decide, Or.inl rfl⟩) kz rfl rfl, ⟨Q, P, hR1.fx f2 rfl, ?_⟩, (lw.fx f1 rfl rfl).fx f2 rfl rfl, ((kp.fx f1 rfl rfl rfl).fx f2 rfl rfl rfl).up⟩
    exact ⟨n, 0, 0, (fun _ => 0), (f2.at (nRS (ρ := 41) rfl rfl)).trans ((f1.at (nRS (ρ := 41) rfl rfl)).trans hn), n8, (f2.at (n7 rfl 5 (by omega) (by omega))).trans z5, k11, (f2.at (n7 rfl 6 (by omega) (by omega))).trans z6, k10, by omega, by omega, fun _ => rfl, fun j hj => absurd hj (Nat.not_lt_zero j), ⟨rfl, fun ρ hρ => by omega, Nat.le_refl _⟩, fun ρ hρ => absurd hρ (Nat.not_lt_zero ρ)⟩
  · refine (e_planC (d := d + 296) (fi := fun _ => 0) (se := fun _ => 0) (th := fun _ => 0) (sn := fun _ => 0) w hn n8 et (by omega) ht0 rfl hR).to ?_
    rintro r m1 ⟨w1, f1, z11, hq, hE⟩
    have g195 : m1.1 195 = m.1 195 := funext fun k => f1.at (nRS (ρ := 21) rfl rfl)
    have eO : MO (pst n) pok (m.1 2) (decide (76 < t)) (minT t 76) 0 (0, 1, 0, 0, (fun _ => 0), (fun _ => 0), (fun _ => 0), (fun _ => 0)) = MO (pst n) pok (m1.1 195) (decide (76 < t)) (minT t 76) 0 (0, 1, 0, 0, (fun _ => 0), (fun _ => 0), (fun _ => 0), (fun _ => 0)) := by
      rw [g195]
      refine MO_ch (fun _ _ S h => pst_ch n8 S h) (fun j hj => h2.2 j ?_)
      have : minT t 76 ≤ t := by unfold minT; split <;> omega
      rw [et, nI_toInt (by omega)]
      omega
    rw [eO] at hq hE
    have k1 : m1.1 187 1 = nI n := (f1.at (nRS (ρ := 23) rfl rfl)).trans hsd
    have k14 : m1.1 187 14 = nI t := (f1.at (nRS (ρ := 21) rfl rfl)).trans ht14
    have hM := e_planM (ad := ad) (d := d + 295) w1 k1 n8 k14 (by omega)
    generalize hO : MO (pst n) pok (m1.1 195) (decide (76 < t)) (minT t 76) 0 (0, 1, 0, 0, (fun _ => 0), (fun _ => 0), (fun _ => 0), (fun _ => 0)) = O at hq hE
    have rel := rd_rel (big := decide (76 < t)) (tx := m1.1 195) (e := minT t 76) (n := n) (O := O) n8 he80 13 0 0 (m1.1 199) 0 (fun _ => 0) (fun _ => 0) (fun _ => 0) (fun _ => 0) (by omega) (by omega) (Nat.zero_le _) (fun j hj => absurd hj (Nat.not_lt_zero j)) ⟨rfl, fun ρ hρ => absurd hρ (Nat.not_lt_zero ρ), Nat.le_refl _⟩ hO
    obtain ⟨ra, rb⟩ := rel
    have go : ∀ v : Int32, r = some (.int v) → (∀ r2 m2, (∃ r' g' np' p' w', rdF (m1.1 195) (minT t 76) n 13 0 0 (m1.1 199) (0, -1) = (r', g', np', (p', w')) ∧ plM m1 t r' g' np' p' w' r2 m2) → r2 = some (.int v) ∧ InvK (KX K0' (c + 1)) m2) → ∃ v : Int32, r = some (.int v) ∧ Ct ad μX12_plan (d + 300) [.ref (ad 187)] m1 (fun r m2 => r = some (.int v) ∧ InvK (KX K0' (c + 1)) m2) := fun v hr h => ⟨v, hr, hM.to (fun r2 m2 h0 => by
      obtain ⟨r', g', np', p', w', hd, -, hP⟩ := h0
      exact h r2 m2 ⟨r', g', np', p', w', hd ht0, hP⟩)⟩
    -- a text that is wrong
    have bad : ∀ q, O = .inl q → Fx (RS [0, 7]) m m1 → PRF m1 P Q → (∀ b k, P ≤ b → b ≤ P + 5 → m1.1 b k = m.1 b k) → ∀ m2, WT m2 → Fx (RS [20, 21, 22, 27]) m1 m2 → (m2.1 187 14).toInt = 0 → InvK (KX K0' (c + 1)) m2 := fun q _ F1 hR1 hc m2 w2 F2 z14 => by
      have e11 : m2.1 1 1 = 0 := (F2.at (nRS (ρ := 0) rfl rfl)).trans z11
      refine ⟨w2, ⟨(h1.fx F1 rfl).fx F2 rfl, TXI.zero (by rw [e11]; rfl) z14, IV.sd I1 F1 F2 rfl rfl⟩, hU.use F1 F2 (fun nx => (nx.fx F1 rfl rfl rfl).fx F2 rfl rfl rfl) kz rfl rfl, ⟨P, Q, hR1.fx F2 rfl, X.fx (fun b k h1 h2 => (F2.at (n7 rfl k (by omega) (by omega))).trans (hc b k h1 h2)) ?_ ?_ ?_ (fun k => ?_)⟩, (lw.fx F1 rfl rfl).fx F2 rfl rfl, ((kp.fx F1 rfl rfl rfl).fx F2 rfl rfl rfl).up⟩
      · exact (F2.at (nRS (ρ := 41) rfl rfl)).trans (F1.at (nRS (ρ := 41) rfl rfl))
      · exact (F2.at (nRS (ρ := 25) rfl rfl)).trans (F1.at (nRS (ρ := 25) rfl rfl))
      · exact (F2.at (nRS (ρ := 25) rfl rfl)).trans (F1.at (nRS (ρ := 25) rfl rfl))
      · exact (F2.at (nRS (ρ := 55) rfl rfl)).trans (F1.at (nRS (ρ := 55) rfl rfl))
    cases O with
    | inl q =>
      obtain ⟨hr, hR1, hc, F1⟩ := hq q rfl
      refine go _ hr ?_
      rintro r2 m2 ⟨r', g', np', p', w', hd, w2, f2, z14, p1, p2, p3⟩
      rw [hd] at ra rb
      dsimp only at ra rb
      by_cases hw : w' = -1
      · obtain ⟨q1, q2, q3, q4, st, us, fi, se, th, sn', hst, h33, h44, hMO, -, -⟩ := rb hw
        obtain ⟨y1, y2⟩ := pl_fin (n := n) (rd := r') (gm := g') (big := decide (76 < t)) (us := us) (fi := fi) (se := se) (th := th) (sn := sn') hst h33 h44
        by_cases hp : p' < t
        · have e := (y1 ((minT_lt q1).mp hp)).symm.trans hMO
          cases e
          obtain ⟨rfl, F2⟩ := p2 hw hp
          exact ⟨rfl, bad _ rfl F1 hR1 hc m2 w2 F2 z14⟩
        · have hn2 : ¬ (p' < minT t 76 ∨ decide (76 < t) = true) := fun q => hp ((minT_lt q1).mpr q)
          have hb : decide (76 < t) = false := by
            cases hd2 : decide (76 < t) with
            | false => rfl
            | true => exact absurd (Or.inr hd2) hn2
          have e := (y2 (fun q => hn2 (Or.inl q)) hb).symm.trans hMO
          cases e
      · obtain ⟨q', hq', e, e2⟩ := ra hw
        cases e
        obtain ⟨rfl, F2⟩ := p1 hw
        exact ⟨by rw [e2], bad _ rfl F1 hR1 hc m2 w2 F2 z14⟩
    | inr S =>
      obtain ⟨st, rd, gm, us, fi, se, th, sn2⟩ := S
      obtain ⟨hr, hR1, z011, ⟨v1, v2, v3, v4⟩, c1, c2, c3, c4, c5, c6, c7, c8⟩ := hE st rd gm us fi se th sn2 rfl
      refine go _ hr ?_
      rintro r2 m2 ⟨r', g', np', p', w', hd, w2, f2, z14, p1, p2, p3⟩
      rw [hd] at ra rb
      dsimp only at ra rb
      by_cases hw : w' = -1
      · obtain ⟨q1, q2, q3, q4, st', us', fi', se', th', sn', hst, h33, h44, hMO, hG, hS⟩ := rb hw
        obtain ⟨y1, y2⟩ := pl_fin (n := n) (rd := r') (gm := g') (big := decide (76 < t)) (us := us') (fi := fi') (se := se') (th := th') (sn := sn') hst h33 h44
        by_cases hp : p' < t
        · have e := (y1 ((minT_lt q1).mp hp)).symm.trans hMO
          cases e
        · have hn2 : ¬ (p' < minT t 76 ∨ decide (76 < t) = true) := fun q => hp ((minT_lt q1).mpr q)
          have hb : decide (76 < t) = false := by
            cases hd2 : decide (76 < t) with
            | false => rfl
            | true => exact absurd (Or.inr hd2) hn2
          have e := (y2 (fun q => hn2 (Or.inl q)) hb).symm.trans hMO
          have e' := Sum.inr.inj e
          have er : r' = rd := congrArg (fun S : PlS => S.2.1) e'
          have eg : g' = gm := congrArg (fun S : PlS => S.2.2.1) e'
          have ef : fi' = fi := congrArg (fun S : PlS => S.2.2.2.2.1) e'
          have es : se' = se := congrArg (fun S : PlS => S.2.2.2.2.2.1) e'
          have eh : th' = th := congrArg (fun S : PlS => S.2.2.2.2.2.2.1) e'
          have en : sn' = sn2 := congrArg (fun S : PlS => S.2.2.2.2.2.2.2) e'
          rw [er, eg, ef, es, eh, en] at hG
          rw [er, eg, en] at hS
          obtain ⟨hr2, k10, k11, k12, r12, g40, rg, k194⟩ := p3 hw hp
          rw [eg] at k10 k194
          rw [er] at k11 hr2
          have e11 : m2.1 1 1 = 0 := (f2.at (nRS (ρ := 0) rfl rfl)).trans z11
          have q7 : ∀ b k, 133 < b → b < 146 → m2.1 b k = m1.1 b k := fun b k h1 h2 => f2.at (n7 rfl k h1 h2)
          have tg : (nI gm).toInt = gm := nI_toInt (by omega)
          refine ⟨hr2, w2, ⟨Or.inr (by rw [k10, tg]; omega), TXI.zero (by rw [e11]; rfl) z14, IV.sd I1 f1 f2 rfl rfl⟩, hU.use f1 f2 (fun _ => ⟨0, rd, (f2.at (nRS (ρ := 44) rfl rfl)).trans z011, k12, k11, by omega, Or.inl rfl⟩) kz rfl rfl, ⟨Q, P, hR1.fx f2 rfl, ?_⟩, (lw.fx f1 rfl rfl).fx f2 rfl rfl, ((kp.fx f1 rfl rfl rfl).fx f2 rfl rfl rfl).up⟩
          exact ⟨n, rd, gm, sn2, (f2.at (nRS (ρ := 41) rfl rfl)).trans ((f1.at (nRS (ρ := 41) rfl rfl)).trans hn), n8, (q7 Q 5 (by omega) (by omega)).trans c2, k11, (q7 Q 6 (by omega) (by omega)).trans c3, k10, by omega, by omega, fun z => by omega, hG.cg k194 (fun j hj => (q7 _ j (by omega) (by omega)).trans (c5 j hj)) (fun j hj => (q7 _ j (by omega) (by omega)).trans (c6 j hj)) (fun j hj => (q7 _ j (by omega) (by omega)).trans (c7 j hj)), hS, fun ρ hρ => (q7 _ ρ (by omega) (by omega)).trans (c8 ρ hρ (by omega))⟩
      · obtain ⟨q', hq', e, e2⟩ := ra hw
        cases e
theorem ob_circle (hU : TRN [7, 44] [20, 25, 32, 52, 55] K0 K0') (c : Nat) : Both ad d μX11_circle μX12_circle [] (InvK (KX K0 c)) (InvK (KX K0' (c + 1))) := fun m I => by
  obtain ⟨w, I1, kz, ⟨P, Q, hR, X⟩, lw, kp⟩ := I
  have X0 := X
  obtain ⟨n, R, g, sn, hn, n8, -⟩ := X0
  have I0 := I1
  obtain ⟨h1, h2, h3, h4, h5⟩ := I0
  have hPQ := hR.2.2
  have hsd : m.1 187 1 = nI n := h3.symm.trans hn
  refine (e_circleC (d := d + 297) w hn n8 hR).to ?_
  rintro r m1 ⟨w1, f1, hR1, h⟩
  have k1 : m1.1 187 1 = nI n := (f1.at (nRS (ρ := 23) rfl rfl)).trans hsd
  have hM := e_circleM (ad := ad) (d := d + 298) w1 k1 n8
  rcases h with ⟨n2, rfl, e⟩ | ⟨n2, rfl, z011, a5, a6, aC, aS⟩
  · refine ⟨_, rfl, hM.to ?_⟩
    rintro r m2 ⟨w2, f2, h2⟩
    rcases h2 with ⟨-, rfl, F2⟩ | ⟨q, -⟩
    · have F1 : Fx (RS []) m m1 := by rw [e]; exact Fx.rf
      exact ⟨rfl, w2, I1.f2 F1 F2 rfl rfl, hU.use F1 F2 (fun nx => (nx.fx F1 rfl rfl rfl).fx F2 rfl rfl rfl) kz rfl rfl, KB.fd c F1 F2 ⟨⟨P, Q, hR, X⟩, lw, kp⟩ rfl rfl⟩
    · omega
  · refine ⟨_, rfl, hM.to ?_⟩
    rintro r m2 ⟨w2, f2, h2'⟩
    rcases h2' with ⟨q, -⟩ | ⟨-, rfl, k11, k12, k10, hMR⟩
    · omega
    · obtain ⟨z, hz⟩ : ∃ z, n + n % 2 = z := ⟨_, rfl⟩
      rw [hz] at a5 a6 aC aS k11 k10 hMR
      have og := cOut_og (n := n) (z := z) (by omega) (z - 1)
      have gp := cOut_pos (n := n) (z := z) n2 hz.symm (z - 1) (by omega)
      have gl := cOut_le (n := n) (z := z) (by omega) (z - 1)
      have tg : (nI (cOut n z (z - 1)).1.1).toInt = (cOut n z (z - 1)).1.1 := nI_toInt (by omega)
      have q7 : ∀ b k, 133 < b → b < 146 → m2.1 b k = m1.1 b k := fun b k h1 h2 => f2.at (n7 rfl k h1 h2)
      refine ⟨by rw [hz], w2, ⟨Or.inr (by rw [k10, tg]; omega), (h2.fx f1 rfl rfl).fx f2 rfl rfl, IV.sd I1 f1 f2 rfl rfl⟩, hU.use f1 f2 (fun _ => ⟨0, z - 1, (f2.at (nRS (ρ := 44) rfl rfl)).trans z011, k12, k11, by omega, Or.inl rfl⟩) kz rfl rfl, ⟨P, Q, hR1.fx f2 rfl, ?_⟩, (lw.fx f1 rfl rfl).fx f2 rfl rfl, ((kp.fx f1 rfl rfl rfl).fx f2 rfl rfl rfl).up⟩
      exact ⟨n, z - 1, (cOut n z (z - 1)).1.1, (cOut n z (z - 1)).2.2, (f2.at (nRS (ρ := 41) rfl rfl)).trans ((f1.at (nRS (ρ := 41) rfl rfl)).trans hn), n8, (q7 P 5 (by omega) (by omega)).trans a5, k11, (q7 P 6 (by omega) (by omega)).trans a6, k10, by omega, by omega, fun z => by omega, (og.gr n8 aC hMR).cg (fun _ _ => rfl) (fun j _ => q7 _ j (by omega) (by omega)) (fun j _ => q7 _ j (by omega) (by omega)) (fun j _ => q7 _ j (by omega) (by omega)), og.sr (by omega), fun ρ hρ => (q7 _ ρ (by omega) (by omega)).trans (aS ρ hρ)⟩
theorem ob_keep (hU : TR [13] [20, 40] K0 K0') (c : Nat) (a : Int32) : Both ad d μX11_keep μX12_keep [.int a] (InvK (KX K0 c)) (InvK (KX K0' (c + 1))) := fun m I => by
  obtain ⟨w, I1, kz, pl, lw, kp⟩ := I
  refine (e_keepC (d := d + 297) w).to ?_
  rintro r m1 (⟨i, hi, hx, rfl, w1, F1, j1, j2, j3, j4, j5, j6, j7⟩ | ⟨hx, rfl, e⟩)
  · have f1 : Fx (RS [13]) m m1 := (Fx.rf (S := RS [13])).tr F1 (KR_13 hi rfl)
    refine ⟨1, rfl, (e_keepM (d := d + 298) w1).to ?_⟩
    rintro r m2 (⟨i', hi', hx', rfl, w2, f2, b1, b2, b3, b4, b5, b6, b7, b8⟩ | ⟨hx', -⟩)
    · have hii : i' = i := ((nI_eq (a := i) (b := i') (by omega) (by omega)).mp (hx.symm.trans hx')).symm
      subst hii
      refine ⟨rfl, w2, I1.f2 f1 f2 rfl rfl, hU.use f1 f2 kz rfl rfl, (pl.fx f1 rfl rfl rfl rfl rfl).fx f2 rfl rfl rfl rfl rfl, (lw.fx f1 rfl rfl).fx f2 rfl rfl, ?_⟩
      obtain ⟨t, ht, h53, hk⟩ := kp
      have g53 : m1.1 187 53 = nI t := (f1.at (nRS (ρ := 45) rfl rfl)).trans h53
      have k53 : m2.1 187 53 = nI t := (f2.at (nRS (ρ := 45) rfl rfl)).trans g53
      have q13 : ∀ b k, 173 ≤ b → b < 187 → m2.1 b k = m1.1 b k := fun b k h1 h2 => f2.at (nRS (ρ := 13) rfl (rg_13 k h1 h2))
      refine ⟨t, by omega, k53, fun j hj => ?_⟩
      by_cases hji : j = i'
      · subst hji
        have e216 : m2.1 216 j = nI t := b2.trans g53
        refine ⟨⟨t, Nat.le_refl _, e216⟩, ⟨fun _ => ⟨by rw [b1]; decide, e216.trans k53.symm⟩, fun _ => ?_⟩, fun _ k hk2 => ?_⟩
        · rw [q13 (173 + 7 * j) 4 (by omega) (by omega), j7]; decide
        · rw [q13 (173 + 7 * j + 6) k (by omega) (by omega), j5 k hk2, b6 k hk2, f1.at (a := 193) (k := k) (nRS (ρ := 47) rfl rfl)]
          exact lw k hk2
      · obtain ⟨⟨s, hs, a1⟩, a2, a3⟩ := hk j hj
        obtain ⟨d1, d2⟩ := b3 j hji
        have c215 : m2.1 215 j = m.1 215 j := d1.trans (f1.at (nRS (ρ := 40) rfl rfl))
        have c216 : m2.1 216 j = m.1 216 j := d2.trans (f1.at (nRS (ρ := 40) rfl rfl))
        have cc : ∀ b k, 173 + 7 * j ≤ b → b ≤ 173 + 7 * j + 6 → m2.1 b k = m.1 b k := fun b k h1 h2 => (q13 b k (by omega) (by omega)).trans (F1.at (by unfold BR; omega))
        refine ⟨⟨s, hs, c216.trans a1⟩, ?_, fun hz k hk2 => ?_⟩
        · rw [cc (173 + 7 * j) 4 (by omega) (by omega), c215, c216, k53, ← h53]; exact a2
        · rw [cc (173 + 7 * j) 4 (by omega) (by omega)] at hz
          rw [cc (173 + 7 * j + 6) k (by omega) (by omega), b8 (71 * j + 65 + k) (by omega), f1.at (a := 214) (k := 71 * j + 65 + k) (nRS (ρ := 40) rfl rfl)]
          exact a3 hz k hk2
    · have hx2 : a.toInt = i := by rw [hx, nI_toInt (by omega)]
      omega
  · have F1 : Fx (RS []) m m1 := by rw [e]; exact Fx.rf
    have w1 : WT m1 := by rw [e]; exact w
    refine ⟨0, rfl, (e_keepM (d := d + 298) w1).to ?_⟩
    rintro r m2 (⟨i', hi', hx', -⟩ | ⟨-, rfl, w2, f2⟩)
    · have : a.toInt = i' := by rw [hx', nI_toInt (by omega)]
      omega
    · exact ⟨rfl, w2, I1.f2 F1 f2 rfl rfl, hU.use F1 f2 kz rfl rfl, KB.fd c F1 f2 ⟨pl, lw, kp⟩ rfl rfl⟩
theorem ob_again (hU : TR [4, 42, 43, 44, 53] [20, 24, 29, 46, 47, 49, 52] K0 K0') (c : Nat) (a : Int32) : Both ad d μX11_again μX12_again [.int a] (InvK (KX K0 c)) (InvK (KX K0' (c + 1))) := fun m I => by
  obtain ⟨w, I1, kz, pl, lw, kp⟩ := I
  have pl0 := pl
  obtain ⟨P, Q, hR, X⟩ := pl0
  have kp0 := kp
  obtain ⟨t, ht, h53, hk⟩ := kp0
  refine (e_againC (d := d + 297) w hR.1).to ?_
  rintro r m1 (⟨i, hi, hx, hz, rfl, w1, f1, j1, j2, j3, j4, j5, j6, j7⟩ | ⟨hx, rfl, e⟩)
  · obtain ⟨-, a2, a3⟩ := hk i hi
    refine ⟨1, rfl, (e_againM (d := d + 298) w1).to ?_⟩
    rintro r m2 (⟨i', hi', hx', hz', rfl, w2, f2, b1, b2, b3, b4, b5⟩ | ⟨hx', -⟩)
    · have hii : i' = i := ((nI_eq (a := i) (b := i') (by omega) (by omega)).mp (hx.symm.trans hx')).symm
      subst hii
      refine ⟨rfl, w2, I1.f2 f1 f2 rfl rfl, hU.use f1 f2 kz rfl rfl, (pl.fx f1 rfl rfl rfl rfl rfl).fx f2 rfl rfl rfl rfl rfl, fun k hk2 => ?_, ((kp.fx f1 rfl rfl rfl).fx f2 rfl rfl rfl).up⟩
      rw [f2.at (a := 4) (k := k) (nRS (ρ := 43) rfl rfl), j5 k hk2, b3 k hk2, f1.at (a := 214) (k := 71 * i' + 65 + k) (nRS (ρ := 40) rfl rfl)]
      exact a3 hz k hk2
    · refine absurd ?_ (hx' i hi hx)
      rw [f1.at (a := 215) (k := i) (nRS (ρ := 40) rfl rfl), f1.at (a := 216) (k := i) (nRS (ρ := 40) rfl rfl), f1.at (a := 187) (k := 53) (nRS (ρ := 45) rfl rfl)]
      exact a2.mp hz
  · have F1 : Fx (RS []) m m1 := by rw [e]; exact Fx.rf
    have w1 : WT m1 := by rw [e]; exact w
    refine ⟨0, rfl, (e_againM (d := d + 298) w1).to ?_⟩
    rintro r m2 (⟨i', hi', hx', hz', -⟩ | ⟨-, rfl, w2, f2⟩)
    · rw [e] at hz'
      exact absurd (hx i' hi' hx') ((hk i' hi').2.1.mpr hz')
    · exact ⟨rfl, w2, I1.f2 F1 f2 rfl rfl, hU.use F1 f2 kz rfl rfl, KB.fd c F1 f2 ⟨pl, lw, kp⟩ rfl rfl⟩
end KBB
end
section
/-! THE LAW'S SETTINGS -/
def lwT (a b : Int32) : Prop := (a = 0 ∧ 0 ≤ b.toInt ∧ b.toInt ≤ 3) ∨ (a = 1 ∧ 1 ≤ b.toInt ∧ b.toInt ≤ 3) ∨ (a = 2 ∧ 0 ≤ b.toInt ∧ b.toInt ≤ 2) ∨ (a = 3 ∧ 0 ≤ b.toInt ∧ b.toInt ≤ 99) ∨ (a = 4 ∧ 0 ≤ b.toInt ∧ b.toInt ≤ 50)
theorem lwT_0 {b : Int32} : lwT 0 b ↔ (0 ≤ b.toInt ∧ b.toInt ≤ 3) := by
  constructor
  · rintro (⟨-, h0, h1⟩ | ⟨q, -⟩ | ⟨q, -⟩ | ⟨q, -⟩ | ⟨q, -⟩)
    · exact ⟨h0, h1⟩
    · exact absurd q (by decide)
    · exact absurd q (by decide)
    · exact absurd q (by decide)
    · exact absurd q (by decide)
  · intro h; exact Or.inl ⟨rfl, h⟩
theorem lwT_1 {b : Int32} : lwT 1 b ↔ (1 ≤ b.toInt ∧ b.toInt ≤ 3) := by
  constructor
  · rintro (⟨q, -⟩ | ⟨-, h0, h1⟩ | ⟨q, -⟩ | ⟨q, -⟩ | ⟨q, -⟩)
    · exact absurd q (by decide)
    · exact ⟨h0, h1⟩
    · exact absurd q (by decide)
    · exact absurd q (by decide)
    · exact absurd q (by decide)
  · intro h; exact Or.inr (Or.inl ⟨rfl, h⟩)
theorem lwT_2 {b : Int32} : lwT 2 b ↔ (0 ≤ b.toInt ∧ b.toInt ≤ 2) := by
  constructor
  · rintro (⟨q, -⟩ | ⟨q, -⟩ | ⟨-, h0, h1⟩ | ⟨q, -⟩ | ⟨q, -⟩)
    · exact absurd q (by decide)
    · exact absurd q (by decide)
    · exact ⟨h0, h1⟩
    · exact absurd q (by decide)
    · exact absurd q (by decide)
  · intro h; exact Or.inr (Or.inr (Or.inl ⟨rfl, h⟩))
theorem lwT_3 {b : Int32} : lwT 3 b ↔ (0 ≤ b.toInt ∧ b.toInt ≤ 99) := by
  constructor
  · rintro (⟨q, -⟩ | ⟨q, -⟩ | ⟨q, -⟩ | ⟨-, h0, h1⟩ | ⟨q, -⟩)
    · exact absurd q (by decide)
    · exact absurd q (by decide)
    · exact absurd q (by decide)
    · exact ⟨h0, h1⟩
    · exact absurd q (by decide)
  · intro h; exact Or.inr (Or.inr (Or.inr (Or.inl ⟨rfl, h⟩)))
theorem lwT_4 {b : Int32} : lwT 4 b ↔ (0 ≤ b.toInt ∧ b.toInt ≤ 50) := by
  constructor
  · rintro (⟨q, -⟩ | ⟨q, -⟩ | ⟨q, -⟩ | ⟨q, -⟩ | ⟨-, h0, h1⟩)
    · exact absurd q (by decide)
    · exact absurd q (by decide)
    · exact absurd q (by decide)
    · exact absurd q (by decide)
    · exact ⟨h0, h1⟩
  · intro h; exact Or.inr (Or.inr (Or.inr (Or.inr (⟨rfl, h⟩))))
theorem lwT_n {a b : Int32} (h : ¬ (0 ≤ a.toInt ∧ a.toInt ≤ 4)) : ¬ lwT a b := by
  rintro (⟨rfl, -⟩ | ⟨rfl, -⟩ | ⟨rfl, -⟩ | ⟨rfl, -⟩ | ⟨rfl, -⟩) <;> exact h (by decide)
section LAW
variable {ad : Nat → Nat} {d : Nat} {m m0 : Wm} {K0 K0' : Wm → Prop}
def lwC (m : Wm) (a b : Int32) (r : Option Value) (m' : Wm) : Prop := WT m' ∧ ((lwT a b ∧ ∃ k, k < 5 ∧ a = nI k ∧ r = some (.int (m.1 4 k)) ∧ m' = uI m 4 k b) ∨ (¬ lwT a b ∧ r = some (.int (-1)) ∧ m' = m))
theorem e_lawC {a b : Int32} (w : WT m) : Ct ad μX11_law (d + 1) [.ref (ad 0), .int a, .int b] m (lwC m a b) := by
  have ok : ∀ k, k < 5 → a = nI k → lwT a b → ∃ v2 : Int32, some (Value.int 1) = some (.int v2) ∧ ((¬ v2 = 0 → (vp_in a 5 ∧ (vp_in a 5 ∧ lwC m a b (some (.int (m.1 4 a.toNatClampNeg))) (uI m 4 a.toNatClampNeg b)))) ∧ (v2 = 0 → lwC m a b (some (.int (-1))) m)) := fun k hk ha hl => by
    refine ⟨1, rfl, fun _ => ?_, fun z => absurd z (by decide)⟩
    rw [ha, nI_clamp (by omega)]
    exact ⟨nat_in hk (by decide), nat_in hk (by decide), w.n rfl, Or.inl ⟨ha ▸ hl, k, hk, rfl, rfl, rfl⟩⟩
  have no : ¬ lwT a b → ∃ v2 : Int32, some (Value.int 0) = some (.int v2) ∧ ((¬ v2 = 0 → (vp_in a 5 ∧ (vp_in a 5 ∧ lwC m a b (some (.int (m.1 4 a.toNatClampNeg))) (uI m 4 a.toNatClampNeg b)))) ∧ (v2 = 0 → lwC m a b (some (.int (-1))) m)) := fun hl => ⟨0, rfl, fun z => absurd rfl z, fun _ => ⟨w, Or.inr ⟨hl, rfl, rfl⟩⟩⟩
  exact v_X11_law (v_X1_allows ⟨fun h => by
    rw [h] at ok no ⊢
    exact ⟨fun c => no (fun q => by have := y_ltr (n := 0) rfl c; have := lwT_0.mp q; omega), fun c => ⟨fun c2 => no (fun q => by have := y_ltl (n := 3) rfl c2; have := lwT_0.mp q; omega), fun c2 => ok 0 (by decide) rfl (lwT_0.mpr ⟨by have := y_nltr (n := 0) rfl c; omega, by have := y_nltl (n := 3) rfl c2; omega⟩)⟩⟩,
    fun h => by
    rw [h] at ok no ⊢
    exact ⟨fun c => no (fun q => by have := y_ltr (n := 1) rfl c; have := lwT_1.mp q; omega), fun c => ⟨fun c2 => no (fun q => by have := y_ltl (n := 3) rfl c2; have := lwT_1.mp q; omega), fun c2 => ok 1 (by decide) rfl (lwT_1.mpr ⟨by have := y_nltr (n := 1) rfl c; omega, by have := y_nltl (n := 3) rfl c2; omega⟩)⟩⟩,
    fun h => by
    rw [h] at ok no ⊢
    exact ⟨fun c => no (fun q => by have := y_ltr (n := 0) rfl c; have := lwT_2.mp q; omega), fun c => ⟨fun c2 => no (fun q => by have := y_ltl (n := 2) rfl c2; have := lwT_2.mp q; omega), fun c2 => ok 2 (by decide) rfl (lwT_2.mpr ⟨by have := y_nltr (n := 0) rfl c; omega, by have := y_nltl (n := 2) rfl c2; omega⟩)⟩⟩,
    fun h => by
    rw [h] at ok no ⊢
    exact ⟨fun c => no (fun q => by have := y_ltr (n := 0) rfl c; have := lwT_3.mp q; omega), fun c => ⟨fun c2 => no (fun q => by have := y_ltl (n := 99) rfl c2; have := lwT_3.mp q; omega), fun c2 => ok 3 (by decide) rfl (lwT_3.mpr ⟨by have := y_nltr (n := 0) rfl c; omega, by have := y_nltl (n := 99) rfl c2; omega⟩)⟩⟩,
    fun h => by
    rw [h] at ok no ⊢
    exact ⟨fun c => no (fun q => by have := y_ltr (n := 0) rfl c; have := lwT_4.mp q; omega), fun c => ⟨fun c2 => no (fun q => by have := y_ltl (n := 50) rfl c2; have := lwT_4.mp q; omega), fun c2 => ok 4 (by decide) rfl (lwT_4.mpr ⟨by have := y_nltr (n := 0) rfl c; omega, by have := y_nltl (n := 50) rfl c2; omega⟩)⟩⟩,
    fun n0 n1 n2 n3 n4 => no (fun q => by
      rcases q with ⟨q, -⟩ | ⟨q, -⟩ | ⟨q, -⟩ | ⟨q, -⟩ | ⟨q, -⟩
      · exact n0 q
      · exact n1 q
      · exact n2 q
      · exact n3 q
      · exact n4 q)⟩)
def lwM (m : Wm) (a b : Int32) (r : Option Value) (m' : Wm) : Prop := WT m' ∧ Fx (RS [20, 47]) m m' ∧ ((lwT a b ∧ ∃ k, k < 5 ∧ a = nI k ∧ r = some (.int (m.1 193 k)) ∧ ∀ j, m'.1 193 j = if j = k then b else m.1 193 j) ∨ (¬ lwT a b ∧ r = some (.int (-1)) ∧ ∀ j, m'.1 193 j = m.1 193 j))
theorem e_lawM {a b : Int32} (w : WT m) : Ct ad μX12_law (d + 2) [.ref (ad 187), .int a, .int b] m (lwM m a b) := by
  have w0 : WT (uI m 187 17 0) := w.n rfl
  have f0 : Fx (RS [20, 47]) m (uI m 187 17 0) := Fx.rf.i rfl
  have z0 : (0 : Int32).toInt = 0 := rfl
  have z4 : (4 : Int32).toInt = 4 := rfl
  have H : ∀ (lo hi : Int32), (0 ≤ a.toInt ∧ a.toInt ≤ 4 → (lwT a b ↔ lo.toInt ≤ b.toInt ∧ b.toInt ≤ hi.toInt)) → AW ad E0 μX12_law (d + 1 + 1) (lwM m a b) 50 [(0, .ref (ad 187)), (1, .int a), (2, .int b), (3, .int lo)] [.int hi] (uI m 187 17 0) := by
    intro lo hi hl
    refine g_X12_law_50 ((in_i (lo := 0) (hi := 4) rfl rfl).to ?_)
    rintro _ m' ⟨eq, rfl⟩
    obtain rfl := eq.symm
    by_cases ha : (0 : Int32) ≤ a ∧ a ≤ 4
    · have a0 := z_le ha.1
      have a4 := z_le ha.2
      have hl2 := hl ⟨by omega, by omega⟩
      refine ⟨1, by rw [if_pos ha], fun z => absurd z (by decide), fun _ => (in_i (lo := lo) (hi := hi) rfl rfl).to ?_⟩
      rintro _ m' ⟨eq, rfl⟩
      obtain rfl := eq.symm
      by_cases hb : lo ≤ b ∧ b ≤ hi
      · obtain ⟨k, hk, hak⟩ := zn_of (x := a) (by omega)
        have ta : a.toInt = k := by rw [hak, nI_toInt hk]
        have hk5 : k < 5 := by omega
        have hT : lwT a b := hl2.mpr ⟨z_le hb.1, z_le hb.2⟩
        refine ⟨1, by rw [if_pos hb], fun _ => ?_, fun z => absurd z (by decide)⟩
        rw [hak, nI_clamp (by omega)]
        refine ⟨nat_in hk5 (by decide), nat_in hk5 (by decide), w0.n rfl, f0.i rfl, Or.inl ⟨hak ▸ hT, k, hk5, rfl, rfl, fun j => ?_⟩⟩
        by_cases hj : j = k
        · rw [hj, if_pos rfl]; exact u_eq
        · rw [if_neg hj]; exact u_ne (fun q => hj q.2)
      · exact ⟨0, by rw [if_neg hb], fun z => absurd rfl z, fun _ => ⟨w0, f0, Or.inr ⟨fun q => hb ⟨(fa_le _ _).mpr (hl2.mp q).1, (fa_le _ _).mpr (hl2.mp q).2⟩, rfl, fun _ => rfl⟩⟩⟩
    · refine ⟨0, by rw [if_neg ha], fun _ => ⟨w0, f0, Or.inr ⟨lwT_n (fun q => ha ⟨(fa_le _ _).mpr (by omega), (fa_le _ _).mpr (by omega)⟩), rfl, fun _ => rfl⟩⟩, fun z => absurd rfl z⟩
  refine v_X12_law ⟨fun c1 => g_X12_law_15 ⟨fun h => H 0 3 (fun _ => by rw [h]; exact lwT_0), fun n0 => ⟨fun n1 => ⟨fun n2 => ⟨fun n3 => H 0 50 (fun q => ?_), fun h => H 0 99 (fun _ => by rw [h]; exact lwT_3)⟩, fun h => H 0 2 (fun _ => by rw [h]; exact lwT_2)⟩, fun h => absurd h c1⟩⟩, fun c1 => g_X12_law_15 ⟨fun h => ?_, fun n0 => ⟨fun n1 => absurd c1 n1, fun h => H 1 3 (fun _ => by rw [h]; exact lwT_1)⟩⟩⟩
  · have h4 : a = 4 := by
      have q0 := y_ner (n := 0) rfl n0
      have q1 := y_ner (n := 1) rfl n1
      have q2 := y_ner (n := 2) rfl n2
      have q3 := y_ner (n := 3) rfl n3
      exact (fa_eq _ _).mpr (by omega)
    rw [h4]
    exact lwT_4
  · rw [c1] at h
    exact absurd h (by decide)
theorem ob_law (hU : TR [43] [20, 47] K0 K0') (c : Nat) (a b : Int32) : Both ad d μX11_law μX12_law [.int a, .int b] (InvK (KX K0 c)) (InvK (KX K0' (c + 1))) := fun m I => by
  obtain ⟨w, I1, kz, pl, lw, kp⟩ := I
  refine (e_lawC (d := d + 299) w).to ?_
  rintro r m1 ⟨w1, ⟨hT, k, hk, hak, rfl, e⟩ | ⟨hT, rfl, e⟩⟩
  · have f1 : Fx (RS [43]) m m1 := by rw [e]; exact Fx.rf.i rfl
    refine ⟨_, rfl, (e_lawM (d := d + 298) w1).to ?_⟩
    rintro r m2 ⟨w2, f2, ⟨-, k', hk', hak', rfl, h⟩ | ⟨hT2, -⟩⟩
    · have hkk : k' = k := ((nI_eq (a := k) (b := k') (by omega) (by omega)).mp (hak.symm.trans hak')).symm
      subst hkk
      have e193 : ∀ j, m1.1 193 j = m.1 193 j := fun j => f1.at (nRS (ρ := 47) rfl rfl)
      refine ⟨by rw [e193 k', lw k' hk], w2, I1.f2 f1 f2 rfl rfl, hU.use f1 f2 kz rfl rfl, (pl.fx f1 rfl rfl rfl rfl rfl).fx f2 rfl rfl rfl rfl rfl, fun j hj => ?_, ((kp.fx f1 rfl rfl rfl).fx f2 rfl rfl rfl).up⟩
      rw [f2.at (a := 4) (k := j) (nRS (ρ := 43) rfl rfl), h j, e193 j, e]
      by_cases hj2 : j = k'
      · rw [hj2, if_pos rfl]; exact u_eq
      · rw [if_neg hj2]; exact (u_ne (fun q => hj2 q.2)).trans (lw j hj)
    · exact absurd hT hT2
  · have F1 : Fx (RS []) m m1 := by rw [e]; exact Fx.rf
    refine ⟨_, rfl, (e_lawM (d := d + 298) w1).to ?_⟩
    rintro r m2 ⟨w2, f2, ⟨hT2, -⟩ | ⟨-, rfl, h⟩⟩
    · exact absurd hT2 hT
    · refine ⟨rfl, w2, I1.f2 F1 f2 rfl rfl, hU.use F1 f2 kz rfl rfl, (pl.fx F1 rfl rfl rfl rfl rfl).fx f2 rfl rfl rfl rfl rfl, fun j hj => ?_, ((kp.fx F1 rfl rfl rfl).fx f2 rfl rfl rfl).up⟩
      rw [f2.at (a := 4) (k := j) (nRS (ρ := 43) rfl rfl), h j, e]
      exact lw j hj
/-- laws() gives back the setting that it found -/
theorem lawsC_l : ∀ (j : Nat) (m : Wm) (x1 x2 x3 : Int32) (q : Nat), q + j = 4 → WT m → Fx (RS [2, 5, 9, 14, 43]) m0 m → 0 ≤ x1.toInt → x1.toInt ≤ 50 → 0 ≤ x3.toInt → x3.toInt ≤ 3 → (∀ k, k ≠ 0 → m.1 4 k = m0.1 4 k) → x2 = m0.1 4 0 →
    AW ad E0 μX11_laws (d + 6) (fun r m' => WT m' ∧ Fx (RS [2, 5, 9, 14, 43]) m0 m' ∧ (∃ v : Int32, r = some (.int v)) ∧ ∀ k, m'.1 4 k = m0.1 4 k) 37 [(0, .ref (ad 0)), (1, .int x1), (2, .int x2), (3, .int x3), (4, .int (nI q))] [] m := by
  have e00 : (0 : Int32).toNatClampNeg = 0 := rfl
  intro j
  induction j with
  | zero =>
    intro m x1 x2 x3 q hq w f a0 a1 b0 b1 hk hx
    obtain rfl : q = 4 := hq
    refine g_X11_laws_37 ⟨fun _ => ⟨(w.n rfl).t rfl (by decide) (by decide), (f.i rfl).i rfl, ⟨_, rfl⟩, fun k => ?_⟩, fun c => absurd (by decide) c⟩
    rw [e00]
    refine (u_ne (by omega)).trans ?_
    by_cases h : k = 0
    · rw [h, hx]; exact u_eq
    · exact (u_ne (fun q => h q.2)).trans (hk k h)
  | succ j ih =>
    intro m x1 x2 x3 q hq w f a0 a1 b0 b1 hk hx
    have tq : (nI q).toInt = q := nI_toInt (by omega)
    refine g_X11_laws_37 ⟨fun c => absurd ((le_l 4 4 rfl (by decide) (by omega)).mp c) (by omega), fun _ => ?_⟩
    rw [e00]
    have w7 : WT (uI m 4 0 (nI q)) := w.n rfl
    have f7 : Fx (RS [2, 5, 9, 14, 43]) m0 (uI m 4 0 (nI q)) := f.i rfl
    refine (s_X11_playAhead w7 (by omega) (by omega)).to ?_
    rintro _ m1 ⟨w_m1, g8, rfl⟩
    refine ⟨rfl, (s_X1_total w_m1 SS_26).to ?_⟩
    rintro _ m2 ⟨w_m2, g9, v3, rfl⟩
    have f_m2 : Fx (RS [2, 5, 9, 14, 43]) m0 m2 := (f7.tr g8 (RS_sub rfl)).tr g9 (RS_sub rfl)
    have e4 : ∀ k, k ≠ 0 → m2.1 4 k = m0.1 4 k := fun k h => (g9.at (nRS (ρ := 43) rfl rfl)).trans ((g8.at (nRS (ρ := 43) rfl rfl)).trans ((u_ne (fun q => h q.2)).trans (hk k h)))
    rw [nI_1]
    exact ⟨v3, rfl, vpi (by omega) (by omega), vpi (by omega) (by omega), vpi (by omega) (by omega), fun _ => ih _ _ _ _ (q + 1) (by omega) w_m2.l (f_m2.l rfl) a0 a1 b0 b1 e4 hx, fun _ => ih _ _ _ _ (q + 1) (by omega) w_m2.l (f_m2.l rfl) a0 a1 (by omega) (by omega) e4 hx⟩
theorem e_lawsC {x1 : Int32} (w : WT m) : Ct ad μX11_laws (d + 6) [.ref (ad 0), .int x1] m (fun r m' => WT m' ∧ Fx (RS [2, 5, 9, 14, 43]) m m' ∧ (∃ v : Int32, r = some (.int v)) ∧ ∀ k, m'.1 4 k = m.1 4 k) := by
  have nn : ∀ v : Int32, WT m ∧ Fx (RS [2, 5, 9, 14, 43]) m m ∧ (∃ v' : Int32, some (Value.int v) = some (.int v')) ∧ ∀ k, m.1 4 k = m.1 4 k := fun v => ⟨w, Fx.rf, ⟨v, rfl⟩, fun _ => rfl⟩
  obtain ⟨r1, e9, q10⟩ := w.r09
  refine v_X11_laws ⟨fun _ => nn _, fun c => ⟨fun _ => nn _, fun c2 => ⟨r1, e9, Pl_of q10, fun _ => ?_, fun _ => nn _⟩⟩⟩
  exact lawsC_l (m0 := m) 4 m _ _ 0 0 (by decide) w Fx.rf (y_nltr (n := 0) rfl c) (y_nltl (n := 50) rfl c2) (by decide) (by decide) (fun _ _ => rfl) rfl
theorem lawsM_l : ∀ (j : Nat) (m : Wm) (x1 x2 x3 x4 : Int32) (q : Nat), q + j = 4 → WT m → Fx (RS [20, 22, 24, 26, 28, 29, 30, 31, 47, 49]) m0 m → 0 ≤ x1.toInt → x1.toInt ≤ 50 → 1 ≤ (m.1 187 11).toInt → (m.1 187 16).toInt = q → (∀ k, k ≠ 0 → m.1 193 k = m0.1 193 k) → x2 = m0.1 193 0 →
    AW ad E0 μX12_laws (d + 172) (fun r m' => WT m' ∧ Fx (RS [20, 22, 24, 26, 28, 29, 30, 31, 47, 49]) m0 m' ∧ (∃ v : Int32, r = some (.int v)) ∧ ∀ k, m'.1 193 k = m0.1 193 k) 55 [(0, .ref (ad 187)), (1, .int x1), (2, .int x2), (3, .int x3), (4, .int x4), (5, .int (nI q))] [] m := by
  have e00 : (0 : Int32).toNatClampNeg = 0 := rfl
  intro j
  induction j with
  | zero =>
    intro m x1 x2 x3 x4 q hq w f a0 a1 h11 h16 hk hx
    obtain rfl : q = 4 := hq
    refine g_X12_laws_55 ⟨fun _ => ⟨w.n rfl, f.i rfl, ⟨_, rfl⟩, fun k => ?_⟩, fun c => absurd (by decide) c⟩
    rw [e00]
    by_cases h : k = 0
    · rw [h, hx]; exact u_eq
    · exact (u_ne (fun q => h q.2)).trans (hk k h)
  | succ j ih =>
    intro m x1 x2 x3 x4 q hq w f a0 a1 h11 h16 hk hx
    refine g_X12_laws_55 ⟨fun c => absurd ((le_l 4 4 rfl (by decide) (by omega)).mp c) (by omega), fun _ => ?_⟩
    rw [e00]
    have w6 : WT (uI m 193 0 (nI q)) := w.n rfl
    have f6 : Fx (RS [20, 22, 24, 26, 28, 29, 30, 31, 47, 49]) m0 (uI m 193 0 (nI q)) := f.i rfl
    have r7 := w.at (a := 187) (k := 11) rfl
    refine (s_X12_goRounds w6 (by omega) (by omega) (by show 1 ≤ ((m.1 187 11)).toInt; omega)).to ?_
    rintro _ m1 ⟨w_m1, g8, rfl⟩
    refine ⟨rfl, (s_X12_sumOfAll w_m1).to ?_⟩
    rintro _ m2 ⟨w_m2, g14, v3, rfl⟩
    refine ⟨v3, rfl, (s_X12_bring_202 w_m2 (by show (0 : Int) ≤ (0 : Int); omega) (by show (0 : Int) ≤ (0 : Int); omega)).to ?_⟩
    rintro _ m4 ⟨w_m4, g20, rfl⟩
    have q16 : (m4.1 187 16).toInt = q := by
      have e1 : m4.1 187 16 = m.1 187 16 := (g20.at (by decide)).trans ((g14.at (by decide)).trans ((g8.at (by decide)).trans (u_ne (by omega))))
      rw [e1]; exact h16
    refine ⟨rfl, (s_X12_tell w_m4 (by omega)).to ?_⟩
    rintro _ m5 ⟨w_m5, g27, rfl, p28⟩
    have f_m5 : Fx (RS [20, 22, 24, 26, 28, 29, 30, 31, 47, 49]) m0 m5 := (((f6.tr g8 (RS_sub rfl)).tr g14 (RS_sub rfl)).tr g20 (RS_sub rfl)).tr g27 (RS_sub rfl)
    have q11 : 1 ≤ (m5.1 187 11).toInt := by
      have e1 : m5.1 187 11 = m.1 187 11 := (g27.at (by decide)).trans ((g20.at (by decide)).trans ((g14.at (by decide)).trans ((g8.at (by decide)).trans (u_ne (by omega)))))
      rw [e1]; exact h11
    have e4 : ∀ k, k ≠ 0 → m5.1 193 k = m0.1 193 k := fun k h => (g27.at (nRS (ρ := 47) rfl rfl)).trans ((g20.at (nRS (ρ := 47) rfl rfl)).trans ((g14.at (nRS (ρ := 47) rfl rfl)).trans ((g8.at (nRS (ρ := 47) rfl rfl)).trans ((u_ne (fun q => h q.2)).trans (hk k h)))))
    have p29 : (m5.1 187 16).toInt = (m4.1 187 16).toInt + 1 := p28
    rw [nI_1]
    exact ⟨rfl, fun _ => ih _ _ _ _ _ (q + 1) (by omega) w_m5 f_m5 a0 a1 q11 (by omega) e4 hx, fun _ => ⟨fun _ => ih _ _ _ _ _ (q + 1) (by omega) w_m5 f_m5 a0 a1 q11 (by omega) e4 hx, fun _ => ih _ _ _ _ _ (q + 1) (by omega) w_m5 f_m5 a0 a1 q11 (by omega) e4 hx⟩⟩
theorem e_lawsM {x1 : Int32} (w : WT m) : Ct ad μX12_laws (d + 172) [.ref (ad 187), .int x1] m (fun r m' => WT m' ∧ Fx (RS [20, 22, 24, 26, 28, 29, 30, 31, 47, 49]) m m' ∧ (∃ v : Int32, r = some (.int v)) ∧ ∀ k, m'.1 193 k = m.1 193 k) := by
  have w0 : WT (uI m 187 17 0) := w.n rfl
  have f0 : Fx (RS [20, 22, 24, 26, 28, 29, 30, 31, 47, 49]) m (uI m 187 17 0) := Fx.rf.i rfl
  have nn : ∀ v : Int32, WT (uI m 187 17 0) ∧ Fx (RS [20, 22, 24, 26, 28, 29, 30, 31, 47, 49]) m (uI m 187 17 0) ∧ (∃ v' : Int32, some (Value.int v) = some (.int v')) ∧ ∀ k, (uI m 187 17 0).1 193 k = m.1 193 k := fun v => ⟨w0, f0, ⟨v, rfl⟩, fun _ => rfl⟩
  have z0 : (0 : Int32).toInt = 0 := rfl
  have z50 : (50 : Int32).toInt = 50 := rfl
  refine v_X12_laws ((in_i (lo := 0) (hi := 50) rfl rfl).to ?_)
  rintro _ m' ⟨eq, rfl⟩
  obtain rfl := eq.symm
  by_cases hc : (0 : Int32) ≤ x1 ∧ x1 ≤ 50
  · have a0 := z_le hc.1
    have a1 := z_le hc.2
    refine ⟨1, by rw [if_pos hc], fun z => absurd z (by decide), fun _ => ⟨fun h11 => ?_, fun _ => nn _⟩⟩
    refine (s_X12_lay_202 w0 (by show (0 : Int) ≤ (0 : Int); omega) (by show (0 : Int) ≤ (0 : Int); omega)).to ?_
    rintro _ m3 ⟨w_m3, g19, rfl⟩
    have r11 := w0.at (a := 187) (k := 11) rfl
    have h11' := y_ner (n := 0) rfl h11
    have q11 : m3.1 187 11 = (uI m 187 17 0).1 187 11 := g19.at (by decide)
    have c193 : ∀ k, m3.1 193 k = m.1 193 k := fun k => g19.at (nRS (ρ := 47) rfl rfl)
    refine ⟨rfl, lawsM_l (m0 := m) 4 _ _ _ 0 0 0 (by decide) (w_m3.t rfl (by decide) (by decide)) ((f0.tr g19 (RS_sub rfl)).i rfl) (by omega) (by omega) ?_ rfl (fun k _ => c193 k) rfl⟩
    show 1 ≤ (m3.1 187 11).toInt
    rw [q11]
    omega
  · exact ⟨0, by rw [if_neg hc], fun _ => nn _, fun z => absurd rfl z⟩
theorem ob_laws (hU : TR [2, 5, 9, 14, 43] [20, 22, 24, 26, 28, 29, 30, 31, 47, 49] K0 K0') (c : Nat) (a : Int32) : BothW ad d μX11_laws μX12_laws [.int a] (InvK (KX K0 c)) (InvK (KX K0' (c + 1))) := fun m I => by
  obtain ⟨w, I1, kz, pl, lw, kp⟩ := I
  refine (e_lawsC (d := d + 294) w).to ?_
  rintro r m1 ⟨w1, f1, ⟨v, rfl⟩, h1⟩
  refine ⟨⟨_, rfl⟩, (e_lawsM (d := d + 128) w1).to ?_⟩
  rintro r m2 ⟨w2, f2, ⟨v2, rfl⟩, h2⟩
  refine ⟨⟨_, rfl⟩, w2, I1.f2 f1 f2 rfl rfl, hU.use f1 f2 kz rfl rfl, (pl.fx f1 rfl rfl rfl rfl rfl).fx f2 rfl rfl rfl rfl rfl, fun k hk => ?_, ((kp.fx f1 rfl rfl rfl).fx f2 rfl rfl rfl).up⟩
  rw [f2.at (a := 4) (k := k) (nRS (ρ := 43) rfl rfl), h1 k, h2 k, f1.at (a := 193) (k := k) (nRS (ρ := 47) rfl rfl)]
  exact lw k hk
end LAW
end
section
/-! WINS, HOPES: whether there is an answer -/
def wnOK (n R : Nat) (x1 x2 x3 : Int32) : Prop := (0 ≤ x1.toInt ∧ x1.toInt < n) ∧ (1 ≤ x2.toInt ∧ x2.toInt ≤ 6) ∧ (0 ≤ x3.toInt ∧ x3.toInt ≤ x2.toInt) ∧ R ≠ 0
def hpOK (R : Nat) (x1 : Int32) : Prop := (1 ≤ x1.toInt ∧ x1.toInt ≤ 6) ∧ R ≠ 0
set_option maxHeartbeats 4000000 in
theorem l_wins0 {ad : Nat → Nat} {d : Nat} {m0 : Wm} {Q : Option Value → Wm → Prop} (hQ : ∀ m', WT m' → Fx (RS [2, 9, 12, 14]) m0 m' → Q (some (.int 0)) m') : ∀ n : Nat, (∀ (m : Wm) (x1 x2 x3 x6 : Int32) (y4 : Int64), WT m → Fx (RS [2, 9, 12, 14]) m0 m → (0 : Int) ≤ x1.toInt → x1.toInt ≤ (7 : Int) → (1 : Int) ≤ x2.toInt → x2.toInt ≤ (6 : Int) → (0 : Int) ≤ x6.toInt → x6.toInt ≤ (64 : Int) → 64 - x6.toInt < (n : Int) → AW ad E0 μX11_wins (d + 7) Q 49 [(0, .ref (ad 0)), (1, .int x1), (2, .int x2), (3, .int x3), (4, .long y4), (6, .int x6)] [] m) := by
  intro n
  induction n with
  | zero =>
    intros
    exfalso
    omega
  | succ n ih =>
    intro m x1 x2 x3 x6 y4 w f j1 j2 j3 j4 j5 j6 hn
    refine g_X11_wins_49  ?_
    refine ⟨?_, ?_⟩
    · intro c1
      have t2 := t_shl1 (x := x2) (by omega) (by omega)
      have k3 := z_le c1
      refine (s_X11_allChances w (by show (0 : Int) ≤ (x2).toInt; omega) (by show (x2).toInt ≤ (6 : Int); omega)).to ?_
      rintro _ m1 ⟨w_m1, g4, w2, rfl⟩
      have f_m1 : Fx (RS [2, 9, 12, 14]) m0 m1 := f.tr g4 (RS_sub rfl)
      refine ⟨w2, rfl, ?_⟩
      refine (s_X11_tellFraction w_m1).to ?_
      rintro _ m3 ⟨w_m3, g5, rfl⟩
      have f_m3 : Fx (RS [2, 9, 12, 14]) m0 m3 := f_m1.tr g5 (RS_sub rfl)
      refine ⟨rfl, ?_⟩
      exact hQ _ w_m3 f_m3
    · intro c6
      have t7 := t_shl1 (x := x2) (by omega) (by omega)
      have k8 := z_nle c6
      obtain ⟨r4, e9, q10⟩ := w.r09
      refine ⟨r4, e9, Pl_of q10, ?_⟩
      refine (s_X7_follow w q10 (by show (0 : Int) ≤ (x2).toInt; omega) (by show (x2).toInt ≤ (6 : Int); omega)).to ?_
      rintro _ m5 ⟨w_m5, g11, w6, rfl⟩
      have f_m5 : Fx (RS [2, 9, 12, 14]) m0 m5 := f.tr g11 (RS_sub rfl)
      refine ⟨w6, rfl, ?_⟩
      refine ⟨?_, ?_⟩
      · intro c12
        have t13 := ti_addc (x := x6) (y := (1 : Int32)) (c := 1) rfl (by omega)
        exact ih _ _ _ _ _ _ w_m5 f_m5 (by show (0 : Int) ≤ (x1).toInt; omega) (by show (x1).toInt ≤ (7 : Int); omega) (by show (1 : Int) ≤ (x2).toInt; omega) (by show (x2).toInt ≤ (6 : Int); omega) (by show (0 : Int) ≤ ((x6 + (1 : Int32))).toInt; omega) (by show ((x6 + (1 : Int32))).toInt ≤ (64 : Int); omega) (by show 64 - ((x6 + (1 : Int32))).toInt < _; omega)
      · intro c14
        refine ⟨?_, ?_⟩
        · exact vpi (by omega) (by omega)
        · refine ⟨?_, ?_⟩
          · intro c15
            have k16 := z_ne c15
            have t17 := ti_addc (x := x6) (y := (1 : Int32)) (c := 1) rfl (by omega)
            exact ih _ _ _ _ _ _ w_m5 f_m5 (by show (0 : Int) ≤ (x1).toInt; omega) (by show (x1).toInt ≤ (7 : Int); omega) (by show (1 : Int) ≤ (x2).toInt; omega) (by show (x2).toInt ≤ (6 : Int); omega) (by show (0 : Int) ≤ ((x6 + (1 : Int32))).toInt; omega) (by show ((x6 + (1 : Int32))).toInt ≤ (64 : Int); omega) (by show 64 - ((x6 + (1 : Int32))).toInt < _; omega)
          · intro c18
            have k19 := z_eq c18
            have t20 := ti_addc (x := x6) (y := (1 : Int32)) (c := 1) rfl (by omega)
            exact ih _ _ _ _ _ _ w_m5 f_m5 (by show (0 : Int) ≤ (x1).toInt; omega) (by show (x1).toInt ≤ (7 : Int); omega) (by show (1 : Int) ≤ (x2).toInt; omega) (by show (x2).toInt ≤ (6 : Int); omega) (by show (0 : Int) ≤ ((x6 + (1 : Int32))).toInt; omega) (by show ((x6 + (1 : Int32))).toInt ≤ (64 : Int); omega) (by show 64 - ((x6 + (1 : Int32))).toInt < _; omega)
set_option maxHeartbeats 4000000 in
theorem l_hopes0 {ad : Nat → Nat} {d : Nat} {m0 : Wm} {Q : Option Value → Wm → Prop} (hQ : ∀ m', WT m' → Fx (RS [2, 9, 12, 14]) m0 m' → Q (some (.int 0)) m') : ∀ n : Nat, (∀ (m : Wm) (x1 x4 x5 x6 : Int32) (y2 : Int64), WT m → Fx (RS [2, 9, 12, 14]) m0 m → (1 : Int) ≤ x1.toInt → x1.toInt ≤ (6 : Int) → (0 : Int) ≤ x6.toInt → x6.toInt ≤ (64 : Int) → 64 - x6.toInt < (n : Int) → AW ad E0 μX11_hopes (d + 7) Q 36 [(0, .ref (ad 0)), (1, .int x1), (2, .long y2), (4, .int x4), (5, .int x5), (6, .int x6)] [] m) := by
  intro n
  induction n with
  | zero =>
    intros
    exfalso
    omega
  | succ n ih =>
    intro m x1 x4 x5 x6 y2 w f j1 j2 j3 j4 hn
    refine g_X11_hopes_36  ?_
    refine ⟨?_, ?_⟩
    · intro c1
      have t2 := t_shl1 (x := x1) (by omega) (by omega)
      have k3 := z_le c1
      refine (s_X11_allChances w (by show (0 : Int) ≤ (x1).toInt; omega) (by show (x1).toInt ≤ (6 : Int); omega)).to ?_
      rintro _ m1 ⟨w_m1, g4, w2, rfl⟩
      have f_m1 : Fx (RS [2, 9, 12, 14]) m0 m1 := f.tr g4 (RS_sub rfl)
      refine ⟨w2, rfl, ?_⟩
      refine (s_X11_tellFraction w_m1).to ?_
      rintro _ m3 ⟨w_m3, g5, rfl⟩
      have f_m3 : Fx (RS [2, 9, 12, 14]) m0 m3 := f_m1.tr g5 (RS_sub rfl)
      refine ⟨rfl, ?_⟩
      have w6 : WT (uL m3 150 ((2 : Int32).toNatClampNeg) x4.toInt64) := w_m3.l
      have f6 : Fx (RS [2, 9, 12, 14]) m0 (uL m3 150 ((2 : Int32).toNatClampNeg) x4.toInt64) := f_m3.l rfl
      have w7 : WT (uL (uL m3 150 ((2 : Int32).toNatClampNeg) x4.toInt64) 150 ((3 : Int32).toNatClampNeg) x5.toInt64) := w6.l
      have f7 : Fx (RS [2, 9, 12, 14]) m0 (uL (uL m3 150 ((2 : Int32).toNatClampNeg) x4.toInt64) 150 ((3 : Int32).toNatClampNeg) x5.toInt64) := f6.l rfl
      have w8 : WT (uI (uL (uL m3 150 ((2 : Int32).toNatClampNeg) x4.toInt64) 150 ((3 : Int32).toNatClampNeg) x5.toInt64) 0 18 (4 : Int32)) := w7.t rfl (by show (0 : Int) ≤ (4 : Int); omega) (by show (4 : Int) ≤ 10; omega)
      have f8 : Fx (RS [2, 9, 12, 14]) m0 (uI (uL (uL m3 150 ((2 : Int32).toNatClampNeg) x4.toInt64) 150 ((3 : Int32).toNatClampNeg) x5.toInt64) 0 18 (4 : Int32)) := f7.i rfl
      exact hQ _ w8 f8
    · intro c9
      have t10 := t_shl1 (x := x1) (by omega) (by omega)
      have k11 := z_nle c9
      obtain ⟨r4, e12, q13⟩ := w.r09
      refine ⟨r4, e12, Pl_of q13, ?_⟩
      refine (s_X7_follow w q13 (by show (0 : Int) ≤ (x1).toInt; omega) (by show (x1).toInt ≤ (6 : Int); omega)).to ?_
      rintro _ m5 ⟨w_m5, g14, w6, rfl⟩
      have f_m5 : Fx (RS [2, 9, 12, 14]) m0 m5 := f.tr g14 (RS_sub rfl)
      refine ⟨w6, rfl, ?_⟩
      refine ⟨?_, ?_⟩
      · intro c15
        have t16 := ti_addc (x := x6) (y := (1 : Int32)) (c := 1) rfl (by omega)
        exact ih _ _ _ _ _ _ w_m5 f_m5 (by show (1 : Int) ≤ (x1).toInt; omega) (by show (x1).toInt ≤ (6 : Int); omega) (by show (0 : Int) ≤ ((x6 + (1 : Int32))).toInt; omega) (by show ((x6 + (1 : Int32))).toInt ≤ (64 : Int); omega) (by show 64 - ((x6 + (1 : Int32))).toInt < _; omega)
      · intro c17
        refine (s_X1_total w_m5 SS_167).to ?_
        rintro _ m7 ⟨w_m7, g18, v8, rfl⟩
        have f_m7 : Fx (RS [2, 9, 12, 14]) m0 m7 := f_m5.tr g18 (RS_sub rfl)
        refine ⟨v8, rfl, ?_⟩
        have t19 := ti_addc (x := x6) (y := (1 : Int32)) (c := 1) rfl (by omega)
        exact ih _ _ _ _ _ _ w_m7 f_m7 (by show (1 : Int) ≤ (x1).toInt; omega) (by show (x1).toInt ≤ (6 : Int); omega) (by show (0 : Int) ≤ ((x6 + (1 : Int32))).toInt; omega) (by show ((x6 + (1 : Int32))).toInt ≤ (64 : Int); omega) (by show 64 - ((x6 + (1 : Int32))).toInt < _; omega)
section WHC
variable {ad : Nat → Nat} {d c P n R : Nat} {m : Wm} {K0 K0' : Wm → Prop}
theorem e_winsC {x1 x2 x3 : Int32} (w : WT m) (hP : m.2.2 0 9 = some P) (hn : m.1 3 3 = nI n) (hn8 : n ≤ 8) (hR : m.1 P 5 = nI R) (hR12 : R ≤ 12) : Ct ad μX11_wins (d + 7) [.ref (ad 0), .int x1, .int x2, .int x3] m (fun r m' => WT m' ∧ Fx (RS [2, 9, 12, 14]) m m' ∧ ((wnOK n R x1 x2 x3 ∧ r = some (.int 0)) ∨ (¬ wnOK n R x1 x2 x3 ∧ r = some (.int (-1))))) := by
  have hPP : Pl P := by
    obtain ⟨r, h1, h2⟩ := w.r09
    rw [hP] at h1
    cases h1
    exact Pl_of h2
  have no : ¬ wnOK n R x1 x2 x3 → WT m ∧ Fx (RS [2, 9, 12, 14]) m m ∧ ((wnOK n R x1 x2 x3 ∧ some (Value.int (-1)) = some (.int 0)) ∨ (¬ wnOK n R x1 x2 x3 ∧ some (Value.int (-1)) = some (.int (-1)))) := fun h => ⟨w, Fx.rf, Or.inr ⟨h, rfl⟩⟩
  refine v_X11_wins ((e_has hn hn8).to ?_)
  rintro _ m' ⟨eq, rfl⟩
  obtain rfl := eq.symm
  by_cases h1 : 0 ≤ x1.toInt ∧ x1.toInt < n
  · refine ⟨1, by rw [if_pos h1], fun z => absurd z (by decide), fun _ => ⟨fun c => no (fun q => ?_), fun c2 => ⟨fun c => no (fun q => ?_), fun c3 => ⟨fun c => no (fun q => ?_), fun c4 => ⟨fun c => no (fun q => ?_), fun c5 => ⟨P, hP, hPP, fun c6 => ?_, fun c6 => no (fun q => ?_)⟩⟩⟩⟩⟩⟩
    · have := y_ltr (n := 1) rfl c
      have := q.2.1.1
      omega
    · have := y_ltl (n := 6) rfl c
      have := q.2.1.2
      omega
    · have := y_ltr (n := 0) rfl c
      have := q.2.2.1.1
      omega
    · have := z_lt c
      have := q.2.2.1.2
      omega
    · have k2 := y_nltr (n := 1) rfl c2
      have k3 := y_nltl (n := 6) rfl c3
      have k4 := y_nltr (n := 0) rfl c4
      have k5 := z_nlt c5
      have k6 : R ≠ 0 := fun z => c6 (by rw [hR, z]; rfl)
      exact l_wins0 (m0 := m) (fun m2 w2 f2 => ⟨w2, f2, Or.inl ⟨⟨h1, ⟨k2, k3⟩, ⟨k4, k5⟩, k6⟩, rfl⟩⟩) 1000000 m x1 x2 x3 _ _ w Fx.rf h1.1 (by omega) k2 k3 (by decide) (by decide) (by decide)
    · rw [hR] at c6
      have h := congrArg Int32.toInt c6
      rw [nI_toInt (by omega)] at h
      have z0 : (0 : Int32).toInt = 0 := rfl
      have := q.2.2.2
      omega
  · exact ⟨0, by rw [if_neg h1], fun _ => no (fun q => h1 q.1), fun z => absurd rfl z⟩
theorem e_hopesC {x1 : Int32} (w : WT m) (hP : m.2.2 0 9 = some P) (hR : m.1 P 5 = nI R) (hR12 : R ≤ 12) : Ct ad μX11_hopes (d + 7) [.ref (ad 0), .int x1] m (fun r m' => WT m' ∧ Fx (RS [2, 9, 12, 14]) m m' ∧ ((hpOK R x1 ∧ r = some (.int 0)) ∨ (¬ hpOK R x1 ∧ r = some (.int (-1))))) := by
  have hPP : Pl P := by
    obtain ⟨r, h1, h2⟩ := w.r09
    rw [hP] at h1
    cases h1
    exact Pl_of h2
  have no : ¬ hpOK R x1 → WT m ∧ Fx (RS [2, 9, 12, 14]) m m ∧ ((hpOK R x1 ∧ some (Value.int (-1)) = some (.int 0)) ∨ (¬ hpOK R x1 ∧ some (Value.int (-1)) = some (.int (-1)))) := fun h => ⟨w, Fx.rf, Or.inr ⟨h, rfl⟩⟩
  refine v_X11_hopes ⟨fun c => no (fun q => ?_), fun c2 => ⟨fun c => no (fun q => ?_), fun c3 => ⟨P, hP, hPP, fun c6 => ?_, fun c6 => no (fun q => ?_)⟩⟩⟩
  · have := y_ltr (n := 1) rfl c
    have := q.1.1
    omega
  · have := y_ltl (n := 6) rfl c
    have := q.1.2
    omega
  · have k2 := y_nltr (n := 1) rfl c2
    have k3 := y_nltl (n := 6) rfl c3
    have k6 : R ≠ 0 := fun z => c6 (by rw [hR, z]; rfl)
    exact l_hopes0 (m0 := m) (fun m2 w2 f2 => ⟨w2, f2, Or.inl ⟨⟨⟨k2, k3⟩, k6⟩, rfl⟩⟩) 1000000 m x1 _ _ _ _ w Fx.rf k2 k3 (by decide) (by decide) (by decide)
  · rw [hR] at c6
    have h := congrArg Int32.toInt c6
    rw [nI_toInt (by omega)] at h
    have z0 : (0 : Int32).toInt = 0 := rfl
    have := q.2
    omega
theorem ob_wins (hU : TR [2, 9, 12, 14] [20, 22, 24, 26, 28, 36, 37, 49] K0 K0') (c : Nat) (x1 x2 x3 : Int32) : Both ad d μX11_wins μX12_wins [.int x1, .int x2, .int x3] (InvK (KX K0 c)) (InvK (KX K0' (c + 1))) := fun m I => by
  obtain ⟨w, I1, kz, ⟨P, Q, hR, X⟩, lw, kp⟩ := I
  have X0 := X
  obtain ⟨n, R, g, sn, hn, n8, a3, a4, a5, a6, a7, -⟩ := X0
  have I0 := I1
  obtain ⟨h1, h2, h3, h4, h5⟩ := I0
  have t1 : (m.1 187 1).toInt = n := by rw [← h3, hn, nI_toInt (by omega)]
  have t11 : (m.1 187 11).toInt = R := by rw [a4, nI_toInt (by omega)]
  have z0 : (0 : Int32).toInt = 0 := rfl
  have z1 : (-1 : Int32).toInt = -1 := rfl
  refine (e_winsC (d := d + 293) w hR.1 hn n8 a3 a7).to ?_
  rintro r m1 ⟨w1, f1, h⟩
  have g1 : (m1.1 187 1).toInt = n := by rw [f1.at (a := 187) (k := 1) (nRS (ρ := 23) rfl rfl)]; exact t1
  have g11 : (m1.1 187 11).toInt = R := by rw [f1.at (a := 187) (k := 11) (nRS (ρ := 25) rfl rfl)]; exact t11
  unfold wnOK at h
  rcases h with ⟨hC, rfl⟩ | ⟨hC, rfl⟩
  · refine ⟨_, rfl, (s_X12_wins (d := d + 109) w1 (h1.fx f1 rfl)).to ?_⟩
    rintro _ m2 ⟨w2, f2, v2, rfl, p2⟩
    exact ⟨congrArg (fun z => some (Value.int z)) ((fa_eq _ _).mpr (by omega)), w2, I1.f2 f1 f2 rfl rfl, hU.use f1 f2 kz rfl rfl, KB.fd c f1 f2 ⟨⟨P, Q, hR, X⟩, lw, kp⟩ rfl rfl⟩
  · refine ⟨_, rfl, (s_X12_wins (d := d + 109) w1 (h1.fx f1 rfl)).to ?_⟩
    rintro _ m2 ⟨w2, f2, v2, rfl, p2⟩
    exact ⟨congrArg (fun z => some (Value.int z)) ((fa_eq _ _).mpr (by omega)), w2, I1.f2 f1 f2 rfl rfl, hU.use f1 f2 kz rfl rfl, KB.fd c f1 f2 ⟨⟨P, Q, hR, X⟩, lw, kp⟩ rfl rfl⟩
theorem ob_hopes (hU : TR [2, 9, 12, 14] [20, 22, 24, 26, 28, 36, 37, 49] K0 K0') (c : Nat) (x1 : Int32) : Both ad d μX11_hopes μX12_hopes [.int x1] (InvK (KX K0 c)) (InvK (KX K0' (c + 1))) := fun m I => by
  obtain ⟨w, I1, kz, ⟨P, Q, hR, X⟩, lw, kp⟩ := I
  have X0 := X
  obtain ⟨n, R, g, sn, hn, n8, a3, a4, a5, a6, a7, -⟩ := X0
  have I0 := I1
  obtain ⟨h1, h2, h3, h4, h5⟩ := I0
  have t11 : (m.1 187 11).toInt = R := by rw [a4, nI_toInt (by omega)]
  have z0 : (0 : Int32).toInt = 0 := rfl
  have z1 : (-1 : Int32).toInt = -1 := rfl
  refine (e_hopesC (d := d + 293) w hR.1 a3 a7).to ?_
  rintro r m1 ⟨w1, f1, h⟩
  have g11 : (m1.1 187 11).toInt = R := by rw [f1.at (a := 187) (k := 11) (nRS (ρ := 25) rfl rfl)]; exact t11
  unfold hpOK at h
  rcases h with ⟨hC, rfl⟩ | ⟨hC, rfl⟩
  · refine ⟨_, rfl, (s_X12_hopes (d := d + 109) w1 (h1.fx f1 rfl)).to ?_⟩
    rintro _ m2 ⟨w2, f2, v2, rfl, p2⟩
    exact ⟨congrArg (fun z => some (Value.int z)) ((fa_eq _ _).mpr (by omega)), w2, I1.f2 f1 f2 rfl rfl, hU.use f1 f2 kz rfl rfl, KB.fd c f1 f2 ⟨⟨P, Q, hR, X⟩, lw, kp⟩ rfl rfl⟩
  · refine ⟨_, rfl, (s_X12_hopes (d := d + 109) w1 (h1.fx f1 rfl)).to ?_⟩
    rintro _ m2 ⟨w2, f2, v2, rfl, p2⟩
    exact ⟨congrArg (fun z => some (Value.int z)) ((fa_eq _ _).mpr (by omega)), w2, I1.f2 f1 f2 rfl rfl, hU.use f1 f2 kz rfl rfl, KB.fd c f1 f2 ⟨⟨P, Q, hR, X⟩, lw, kp⟩ rfl rfl⟩
end WHC
end
section
/-! THE RULE, BETWEEN TWO CALLS -/
section RUX
variable {m m' : Wm} {S A B : List Nat}
theorem RuK.fx (h : RuK m) (f : Fx (RS S) m m') (e1 : S.elem 1 = false) (e48 : S.elem 48 = false) : RuK m' := by
  obtain ⟨P, Q, hR, cl, z, hX, h27, hz, hv⟩ := h
  have hP : P = 5 ∨ P = 10 := by have := hR.2.2; omega
  have r : ∀ j k, j = 0 ∨ j = 1 → m'.1 (P + j) k = m.1 (P + j) k := fun j k hj => f.at (nRS e1 (rg_1 hP hj))
  have g200 : m'.1 200 = m.1 200 := funext fun k => f.at (nRS (ρ := 48) e48 rfl)
  refine ⟨P, Q, ⟨((f 3 1 (nRS e1 rfl)).2.2).trans hR.1, ((f 3 2 (nRS e1 rfl)).2.2).trans hR.2.1, hR.2.2⟩, cl, z, ⟨(r 0 4 (Or.inl rfl)).trans hX.1, hX.2.1.k (fun k => r 1 k (Or.inr rfl)), hX.2.2⟩, (f.at (nRS (ρ := 48) e48 rfl)).trans h27, hz, ?_⟩
  rw [g200]
  exact hv
theorem RuK.tr (a : (A.all fun x => !(([1, 48] : List Nat).elem x)) = true) (b : (B.all fun x => !(([1, 48] : List Nat).elem x)) = true) : TR A B RuK RuK := fun f1 f2 k => (k.fx f1 (all_ne a (ρ := 1) rfl) (all_ne a (ρ := 48) rfl)).fx f2 (all_ne b (ρ := 1) rfl) (all_ne b (ρ := 48) rfl)
theorem RuK.trn (a : (A.all fun x => !(([1, 48] : List Nat).elem x)) = true) (b : (B.all fun x => !(([1, 48] : List Nat).elem x)) = true) : TRN A B RuK RuK := fun f1 f2 _ k => (k.fx f1 (all_ne a (ρ := 1) rfl) (all_ne a (ρ := 48) rfl)).fx f2 (all_ne b (ρ := 1) rfl) (all_ne b (ρ := 48) rfl)
theorem RuK.kd : KD RuK RuK := by
  intro S1 S2 m m1 m2 f1 f2 k e1 e2
  exact (k.fx f1 (all_ne (L := KL) e1 rfl) (all_ne (L := KL) e1 rfl)).fx f2 (all_ne (L := KL) e2 rfl) (all_ne (L := KL) e2 rfl)
theorem RuK.lg (c : Nat) : LGH (KX RuK c) RuK := by
  intro m m1 m2 n st dg ln sd ar fr wp il sk I en n8 w1 w2 f1 f2 hF V L E e33
  exact (I.2.2.1.fx f1 rfl rfl).fx f2 rfl rfl
theorem KB.rl (c : Nat) {m1 m2 : Wm} (k : KB c m) (f1 : Fx (RS [0, 1]) m m1) (f2 : Fx (RS [20, 21, 22, 48, 28]) m1 m2) : KB (c + 1) m2 := by
  obtain ⟨k1, k2, k3⟩ := k
  exact ⟨(k1.fx f1 rfl rfl rfl rfl rfl).fx f2 rfl rfl rfl rfl rfl, (k2.fx f1 rfl rfl).fx f2 rfl rfl, ((k3.fx f1 rfl rfl rfl).fx f2 rfl rfl rfl).up⟩
theorem RuK.rl (c : Nat) : RLH (KX RuK c) (KX RuK (c + 1)) := fun m m1 m2 I w1 w2 f1 f2 h => ⟨h I.2.2.1, KB.rl c I.2.2.2 f1 f2⟩
theorem RuK.ru (c : Nat) : ∀ m, KX RuK c m → ∃ P Q, RuR m P Q := fun m k => by
  obtain ⟨P, Q, h, -⟩ := k.1
  exact ⟨P, Q, h⟩
end RUX
end
section
/-! THE GAME'S CORE, as both sides play it; and the class's side of what a side can do -/
/-- skills, points, raised, thrown, luck -/
abbrev GS : Type := (Nat → Int32) × (Nat → Int32) × (Nat → Int32) × (Nat → Int32) × Int32
/-- sides, arts, the law's settings, who is ill, the rule's text, its length -/
abbrev EV : Type := Nat × Nat × (Nat → Int32) × (Nat → Bool) × (Nat → Int32) × Nat
def nE (v : EV) : Nat := v.1
def aE (v : EV) : Nat := v.2.1
def lE (v : EV) : Nat → Int32 := v.2.2.1
def iE (v : EV) : Nat → Bool := v.2.2.2.1
def tE (v : EV) : Nat → Int32 := v.2.2.2.2.1
def zE (v : EV) : Nat := v.2.2.2.2.2
def HC (b : Nat) (m : Wm) (g : GS) : Prop := (∀ k, k < 32 → m.1 (b + 1) k = g.1 k) ∧ (∀ k, k < 8 → m.1 (b + 2) k = g.2.1 k) ∧ (∀ k, k < 8 → m.1 (b + 3) k = g.2.2.1 k) ∧ (∀ k, k < 8 → m.1 (b + 4) k = g.2.2.2.1 k) ∧ m.1 b 4 = g.2.2.2.2
/-- of the sides that there are -/
def HM (n : Nat) (m : Wm) (g : GS) : Prop := (∀ k, k < 4 * n → m.1 188 k = g.1 k) ∧ (∀ k, k < n → m.1 190 k = g.2.1 k) ∧ (∀ k, k < n → m.1 191 k = g.2.2.1 k) ∧ (∀ k, k < n → m.1 192 k = g.2.2.2.1 k) ∧ m.1 187 8 = g.2.2.2.2
def illC (m : Wm) (il : Nat → Bool) : Prop := ∀ s, s < 8 → bt (m.1 3 5) s = il s
/-- the rule in force comes to what the text tx of z signs comes to -/
def RuT (m : Wm) (tx : Nat → Int32) (z : Nat) : Prop := ∃ P Q, RuR m P Q ∧ ∃ cl, CodeX P cl m ∧ ((z = 0 ∧ cl = []) ∨ (z ≠ 0 ∧ cl ≠ [] ∧ ∀ lt, evR lt cl [] = some [(prF tx z lt 164 3 0 (0, -1)).1]))
def EC (m : Wm) (v : EV) : Prop := m.1 3 3 = nI (nE v) ∧ m.1 3 4 = nI (aE v) ∧ nE v ≤ 8 ∧ aE v ≤ 4 ∧ (∀ k, k < 5 → m.1 4 k = lE v k) ∧ (illC m (iE v) ∧ ∀ s, nE v ≤ s → iE v s = false) ∧ RuT m (tE v) (zE v)
def EM (m : Wm) (v : EV) : Prop := m.1 187 1 = nI (nE v) ∧ m.1 187 0 = nI (aE v) ∧ nE v ≤ 8 ∧ aE v ≤ 4 ∧ (∀ k, k < 5 → m.1 193 k = lE v k) ∧ (∀ s, s < nE v → m.1 189 s = if iE v s = true then 1 else 0) ∧ m.1 187 27 = nI (zE v) ∧ zE v ≤ 40 ∧ ∀ k, k < zE v → m.1 200 k = tE v k
section COR
variable {ad : Nat → Nat} {d b ρ s ar : Nat} {m m' : Wm} {g : GS} {v : EV} {S : List Nat}
theorem HC.fx (h : HC b m g) (hb : SS b ρ) (f : Fx (RS S) m m') (e : S.elem ρ = false) : HC b m' g := by
  obtain ⟨h1, h2, h3, h4, h5⟩ := h
  have r : ∀ j k, j ≤ 4 → m'.1 (b + j) k = m.1 (b + j) k := fun j k hj => f.at (nRS e (hb.2 j k hj).1)
  exact ⟨fun k hk => (r 1 k (by decide)).trans (h1 k hk), fun k hk => (r 2 k (by decide)).trans (h2 k hk), fun k hk => (r 3 k (by decide)).trans (h3 k hk), fun k hk => (r 4 k (by decide)).trans (h4 k hk), (r 0 4 (by decide)).trans h5⟩
theorem HM.fx {n : Nat} (h : HM n m g) (f : Fx (RS S) m m') (e : S.elem 24 = false) (e2 : S.elem 49 = false) : HM n m' g := by
  obtain ⟨h1, h2, h3, h4, h5⟩ := h
  exact ⟨fun k hk => (f.at (nRS (ρ := 24) e rfl)).trans (h1 k hk), fun k hk => (f.at (nRS (ρ := 24) e rfl)).trans (h2 k hk), fun k hk => (f.at (nRS (ρ := 24) e rfl)).trans (h3 k hk), fun k hk => (f.at (nRS (ρ := 24) e rfl)).trans (h4 k hk), (f.at (nRS (ρ := 49) e2 rfl)).trans h5⟩
theorem RuT.fx {tx : Nat → Int32} {z : Nat} (h : RuT m tx z) (f : Fx (RS S) m m') (e : S.elem 1 = false) : RuT m' tx z := by
  obtain ⟨P, Q, hR, cl, hX, hv⟩ := h
  have hP : P = 5 ∨ P = 10 := by have := hR.2.2; omega
  have r : ∀ j k, j = 0 ∨ j = 1 → m'.1 (P + j) k = m.1 (P + j) k := fun j k hj => f.at (nRS e (rg_1 hP hj))
  exact ⟨P, Q, ⟨((f 3 1 (nRS e rfl)).2.2).trans hR.1, ((f 3 2 (nRS e rfl)).2.2).trans hR.2.1, hR.2.2⟩, cl, ⟨(r 0 4 (Or.inl rfl)).trans hX.1, hX.2.1.k (fun k => r 1 k (Or.inr rfl)), hX.2.2⟩, hv⟩
theorem EC.fx (h : EC m v) (f : Fx (RS S) m m') (e : S.all (fun x => !(([1, 41, 42, 43] : List Nat).elem x)) = true) : EC m' v := by
  obtain ⟨h1, h2, h3, h4, h5, h6, h7⟩ := h
  refine ⟨(f.at (nRS (all_ne e (ρ := 41) rfl) rfl)).trans h1, (f.at (nRS (all_ne e (ρ := 41) rfl) rfl)).trans h2, h3, h4, fun k hk => (f.at (nRS (all_ne e (ρ := 43) rfl) rfl)).trans (h5 k hk), ⟨fun s hs => ?_, h6.2⟩, h7.fx f (all_ne e (ρ := 1) rfl)⟩
  rw [f.at (a := 3) (k := 5) (nRS (all_ne e (ρ := 42) rfl) rfl)]
  exact h6.1 s hs
theorem EM.fx (h : EM m v) (f : Fx (RS S) m m') (e : S.all (fun x => !(([23, 46, 47, 48] : List Nat).elem x)) = true) : EM m' v := by
  obtain ⟨h1, h2, h3, h4, h5, h6, h7, h8, h9⟩ := h
  exact ⟨(f.at (nRS (all_ne e (ρ := 23) rfl) rfl)).trans h1, (f.at (nRS (all_ne e (ρ := 23) rfl) rfl)).trans h2, h3, h4, fun k hk => (f.at (nRS (all_ne e (ρ := 47) rfl) rfl)).trans (h5 k hk), fun s hs => (f.at (nRS (all_ne e (ρ := 46) rfl) rfl)).trans (h6 s hs), (f.at (nRS (all_ne e (ρ := 48) rfl) rfl)).trans h7, h8, fun k hk => (f.at (nRS (all_ne e (ρ := 48) rfl) rfl)).trans (h9 k hk)⟩
theorem sk_ix {a : Nat} : nI s * (4 : Int32) + nI a = nI (4 * s + a) := by rw [mul_l 4 4 rfl, nI_add, Nat.mul_comm]
theorem skillC (hb : SS b ρ) (h : HC b m g) {a : Nat} (hs : s < 8) (ha : a < 4) : Ct ad μX8_skillOf d [.ref (ad b), .int (nI s), .int (nI a)] m (fun r m' => m' = m ∧ r = some (.int (g.1 (4 * s + a)))) := by
  refine v_X8_skillOf hb.1 ?_
  rw [sk_ix, nI_clamp (by omega), h.1 (4 * s + a) (by omega)]
  exact ⟨fun c => absurd ((l_lt 0 0 rfl (by decide) (by omega)).mp c) (by omega), fun _ => ⟨fun c => absurd ((le_l 32 32 rfl (by decide) (by omega)).mp c) (by omega), fun _ => ⟨nat_in (by omega) (by decide), rfl, rfl⟩⟩⟩
theorem putC (hb : SS b ρ) {a : Nat} {x : Int32} (hs : s < 8) (ha : a < 4) : Ct ad μX8_putSkill d [.ref (ad b), .int (nI s), .int (nI a), .int x] m (fun r m' => r = none ∧ m' = uI m (b + 1) (4 * s + a) x) := by
  refine v_X8_putSkill hb.1 ?_
  rw [sk_ix, nI_clamp (by omega)]
  exact ⟨fun c => absurd ((l_lt 0 0 rfl (by decide) (by omega)).mp c) (by omega), fun _ => ⟨fun c => absurd ((le_l 32 32 rfl (by decide) (by omega)).mp c) (by omega), fun _ => ⟨nat_in (by omega) (by decide), rfl, rfl⟩⟩⟩
theorem ix_end (hs : s < 8) (ha : ar ≤ 4) : (if (32 : Int32) < nI s * (4 : Int32) + nI ar then (32 : Int32) else nI s * (4 : Int32) + nI ar) = nI (4 * s + ar) := by
  rw [sk_ix, if_neg (fun c => by have := (lt_l 32 32 rfl (by decide) (by omega)).mp c; omega)]
theorem ix_beg (hs : s < 8) : (if nI s < (0 : Int32) then (0 : Int32) else nI s) * (4 : Int32) = nI (4 * s) := by
  rw [if_neg (fun c => by have := (l_lt 0 0 rfl (by decide) (by omega)).mp c; omega), mul_l 4 4 rfl, Nat.mul_comm]
theorem sumC (hb : SS b ρ) (h : HC b m g) (hs : s < 8) (ha : ar ≤ 4) : Ct ad μX8_sum (d + 1) [.ref (ad b), .int (nI s), .int (nI ar)] m (fun r m' => m' = m ∧ r = some (.int (smF g.1 (4 * s) ar))) := by
  refine v_X8_sum hb.1 ?_
  rw [ix_end hs ha, ix_beg hs]
  refine down (N := ar) (P := fun k => AW ad E0 μX8_sum (d + 1) (fun r m' => m' = m ∧ r = some (.int (smF g.1 (4 * s) ar))) 26 [(0, .ref (ad b)), (3, .int (smF g.1 (4 * s) k)), (4, .int (nI (4 * s + ar))), (5, .int (nI (4 * s + k)))] [] m) ?_ ?_ (Nat.zero_le _)
  · exact g_X8_sum_26 hb.1 ⟨fun _ => ⟨rfl, rfl⟩, fun c => absurd ((nI_leI (by omega) (by omega)).mpr (Nat.le_refl _)) c⟩
  · intro k hk ih
    refine g_X8_sum_26 hb.1 ⟨fun c => absurd ((nI_leI (by omega) (by omega)).mp c) (by omega), fun _ => ?_⟩
    rw [nI_clamp (by omega), h.1 (4 * s + k) (by omega), nI_1]
    exact ⟨nat_in (by omega) (by decide), ih⟩
theorem mostC (hb : SS b ρ) (h : HC b m g) (hs : s < 8) (ha : ar ≤ 4) : Ct ad μX8_greatest (d + 1) [.ref (ad b), .int (nI s), .int (nI ar)] m (fun r m' => m' = m ∧ r = some (.int (mxF g.1 (4 * s) ar))) := by
  refine v_X8_greatest hb.1 ?_
  rw [ix_end hs ha, ix_beg hs]
  refine down (N := ar) (P := fun k => AW ad E0 μX8_greatest (d + 1) (fun r m' => m' = m ∧ r = some (.int (mxF g.1 (4 * s) ar))) 26 [(0, .ref (ad b)), (3, .int (mxF g.1 (4 * s) k)), (4, .int (nI (4 * s + ar))), (5, .int (nI (4 * s + k)))] [] m) ?_ ?_ (Nat.zero_le _)
  · exact g_X8_greatest_26 hb.1 ⟨fun _ => ⟨rfl, rfl⟩, fun c => absurd ((nI_leI (by omega) (by omega)).mpr (Nat.le_refl _)) c⟩
  · intro k hk ih
    refine g_X8_greatest_26 hb.1 ⟨fun c => absurd ((nI_leI (by omega) (by omega)).mp c) (by omega), fun _ => ?_⟩
    rw [nI_clamp (by omega), h.1 (4 * s + k) (by omega), nI_1]
    exact ⟨nat_in (by omega) (by decide), ih⟩
theorem leastC (hb : SS b ρ) (h : HC b m g) (hs : s < 8) (ha : ar ≤ 4) : Ct ad μX8_least (d + 1) [.ref (ad b), .int (nI s), .int (nI ar)] m (fun r m' => m' = m ∧ r = some (.int (mnF g.1 (4 * s) ar))) := by
  refine v_X8_least hb.1 ?_
  rw [ix_end hs ha, ix_beg hs]
  refine down (N := ar) (P := fun k => AW ad E0 μX8_least (d + 1) (fun r m' => m' = m ∧ r = some (.int (mnF g.1 (4 * s) ar))) 27 [(0, .ref (ad b)), (3, .int (mnF g.1 (4 * s) k)), (4, .int (nI (4 * s + ar))), (5, .int (nI (4 * s + k)))] [] m) ?_ ?_ (Nat.zero_le _)
  · exact g_X8_least_27 hb.1 ⟨fun _ => ⟨rfl, rfl⟩, fun c => absurd ((nI_leI (by omega) (by omega)).mpr (Nat.le_refl _)) c⟩
  · intro k hk ih
    refine g_X8_least_27 hb.1 ⟨fun c => absurd ((nI_leI (by omega) (by omega)).mp c) (by omega), fun _ => ?_⟩
    rw [nI_clamp (by omega), h.1 (4 * s + k) (by omega), nI_1]
    exact ⟨nat_in (by omega) (by decide), ih⟩
theorem thingC (hb : SS b ρ) (h : HC b m g) (hs : s < 8) (ha : ar ≤ 4) {c : Int32} (hc : isLt c) : Ct ad μX5_thing (d + 2) [.int c, .ref (ad b), .int (nI s), .int (nI ar)] m (fun r m' => m' = m ∧ r = some (.int (ltF g.1 g.2.1 g.2.2.1 ar s c))) := by
  refine v_X5_thing hb.1 ⟨?_, ?_, ?_, ?_, ?_, ?_, ?_⟩
  · rintro rfl
    exact ⟨rfl, rfl⟩
  · rintro rfl
    refine (leastC hb h hs ha).to ?_
    rintro _ m1 ⟨eq, rfl⟩
    obtain rfl := eq.symm
    exact ⟨_, rfl, rfl, rfl⟩
  · rintro rfl
    refine (mostC hb h hs ha).to ?_
    rintro _ m1 ⟨eq, rfl⟩
    obtain rfl := eq.symm
    exact ⟨_, rfl, rfl, rfl⟩
  · rintro rfl
    refine ⟨nat_in hs (by decide), rfl, ?_⟩
    rw [nI_clamp (by omega), h.2.1 s hs]
    rfl
  · rintro rfl
    refine ⟨nat_in hs (by decide), rfl, ?_⟩
    rw [nI_clamp (by omega), h.2.2.1 s hs]
    rfl
  · rintro rfl
    refine (sumC hb h hs ha).to ?_
    rintro _ m1 ⟨eq, rfl⟩
    obtain rfl := eq.symm
    exact ⟨_, rfl, rfl, rfl⟩
  · intro h1 h2 h3 h4 h5 h6
    have hr : 97 ≤ c ∧ c ≤ 100 := by
      rcases hc with q | q | q | q | q | q | q
      · exact q
      · exact absurd q h6
      · exact absurd q h3
      · exact absurd q h2
      · exact absurd q h1
      · exact absurd q h4
      · exact absurd q h5
    have q1 := y_lel (n := 97) rfl hr.1
    have q2 := y_ler (n := 100) rfl hr.2
    have z97 : (97 : Int32).toInt = 97 := rfl
    have q4 := ti_sub (x := c) (y := (97 : Int32)) (by omega)
    obtain ⟨j, hj, ej⟩ := zn_of (x := c - 97) (by omega)
    have q5 : (c - 97).toInt = j := by rw [ej, nI_toInt hj]
    have z0 : (0 : Int32).toInt = 0 := rfl
    have z1 : (1 : Int32).toInt = 1 := rfl
    have q3 : (nI ar).toInt = ar := nI_toInt (by omega)
    have q6 := ti_sub (x := nI ar) (y := (1 : Int32)) (by omega)
    have e0 : ltF g.1 g.2.1 g.2.2.1 ar s c = if 0 ≤ c - 97 ∧ c - 97 ≤ nI ar - 1 then g.1 (4 * s + (c - 97).toNatClampNeg) else 0 := by
      unfold ltF
      rw [if_neg h1, if_neg h2, if_neg h3, if_neg h4, if_neg h5, if_neg h6]
    refine ⟨fun q => ⟨rfl, ?_⟩, fun q => ?_⟩
    · have := z_le q
      rw [e0, if_neg (fun z => by have := z_le z.2; omega)]
    · have := z_nle q
      rw [e0, if_pos ⟨(fa_le _ _).mpr (by omega), (fa_le _ _).mpr (by omega)⟩, ej, nI_clamp hj]
      refine (skillC hb h hs (a := j) (by omega)).to ?_
      rintro _ m1 ⟨eq, rfl⟩
      obtain rfl := eq.symm
      exact ⟨_, rfl, rfl, rfl⟩
theorem joinC {c x y : Int32} : Ct ad μX5_joined d [.int c, .int x, .int y] m (fun r m' => m' = m ∧ r = some (.int (jnF c x y))) := by
  refine v_X5_joined ⟨?_, ?_, ?_, ?_, ?_, ?_, ?_⟩
  · rintro rfl; exact ⟨rfl, rfl⟩
  · rintro rfl; exact ⟨rfl, rfl⟩
  · rintro rfl; exact ⟨rfl, rfl⟩
  · rintro rfl
    have e : jnF 60 x y = if x < y then 1 else 0 := rfl
    rw [e]
    exact ⟨fun q => ⟨rfl, by rw [if_neg (fun z => by have := z_le q; have := z_lt z; omega)]⟩, fun q => ⟨rfl, by rw [if_pos ((fa_lt _ _).mpr (z_nle q))]⟩⟩
  · rintro rfl
    have e : jnF 61 x y = if x = y then 1 else 0 := rfl
    rw [e]
    exact ⟨fun q => ⟨rfl, by rw [if_neg q]⟩, fun q => ⟨rfl, by rw [if_pos q]⟩⟩
  · rintro rfl
    have e : jnF 62 x y = if y < x then 1 else 0 := rfl
    rw [e]
    exact ⟨fun q => ⟨rfl, by rw [if_neg (fun z => by have := z_le q; have := z_lt z; omega)]⟩, fun q => ⟨rfl, by rw [if_pos ((fa_lt _ _).mpr (z_nle q))]⟩⟩
  · intro n42 n43 n45 n60 n61 n62
    have e : jnF c x y = if y = 0 then 0 else x / y := by
      unfold jnF
      rw [if_neg n60, if_neg n62, if_neg n61, if_neg n43, if_neg n45, if_neg n42]
    rw [e]
    exact ⟨fun q => ⟨q, rfl, by rw [if_neg q]⟩, fun q => ⟨rfl, by rw [if_pos q]⟩⟩
theorem clampC {x lo hi : Int32} (h : lo.toInt ≤ hi.toInt) : Ct ad μX11_clamp d [.int x, .int lo, .int hi] m (fun r m' => m' = m ∧ r = some (.int (if lo < (if x < hi then x else hi) then (if x < hi then x else hi) else lo))) := by
  refine v_X11_clamp ⟨fun c1 => ⟨fun c2 => ⟨rfl, ?_⟩, fun c2 => ⟨rfl, ?_⟩⟩, fun c1 => ⟨rfl, ?_⟩⟩
  · have := z_le c1
    have := z_le c2
    refine congrArg (fun z => some (Value.int z)) ?_
    by_cases q : x < hi
    · rw [if_pos q]
      by_cases q2 : lo < x
      · rw [if_pos q2]
      · rw [if_neg q2]; have := z_nlt q2; exact (fa_eq _ _).mpr (by omega)
    · have := z_nlt q
      rw [if_neg q]
      by_cases q2 : lo < hi
      · rw [if_pos q2]; exact (fa_eq _ _).mpr (by omega)
      · rw [if_neg q2]; have := z_nlt q2; exact (fa_eq _ _).mpr (by omega)
  · have := z_le c1
    have := z_nle c2
    refine congrArg (fun z => some (Value.int z)) ?_
    rw [if_neg (c := x < hi) (fun z => by have := z_lt z; omega)]
    by_cases q2 : lo < hi
    · rw [if_pos q2]
    · rw [if_neg q2]; have := z_nlt q2; exact (fa_eq _ _).mpr (by omega)
  · have := z_nle c1
    refine congrArg (fun z => some (Value.int z)) ?_
    rw [if_pos (c := x < hi) ((fa_lt _ _).mpr (by omega)), if_neg (c := lo < x) (fun z => by have := z_lt z; omega)]
theorem drop_c : ∀ (cl : List Int32) (j : Nat), j < cl.length → cl.drop j = cAt cl j :: cl.drop (j + 1) := by
  intro cl
  induction cl with
  | nil => intro j h; exact absurd h (Nat.not_lt_zero j)
  | cons x cl ih =>
    intro j h
    cases j with
    | zero => rfl
    | succ j => exact ih j (by rw [List.length_cons] at h; omega)
theorem ev_suf {lt : Int32 → Int32} : ∀ (cl : List Int32) (σ τ : List Int32), evR lt cl σ = some τ → ∀ j, ∃ υ, evR lt (cl.drop j) σ = some υ := by
  intro cl
  induction cl with
  | nil => intro σ τ h j; exact ⟨τ, by rw [List.drop_nil]; exact h⟩
  | cons x cl ih =>
    intro σ τ h j
    cases j with
    | zero => exact ⟨τ, h⟩
    | succ j =>
      cases e : evR lt cl σ with
      | none =>
        have h3 : evR lt (x :: cl) σ = none := by
          show (match evR lt cl σ with | none => none | some τ => evS lt x τ) = _
          rw [e]
        rw [h3] at h
        cases h
      | some υ => exact ih σ υ e j
end COR
/-! WHAT A SIDE CAN DO: the class's value of the code -/
section VAL
variable {ad : Nat → Nat} {d b ρ s ar P : Nat} {m m0 : Wm} {g : GS} {cl : List Int32} {v : Int32}
theorem CodeX.fx {S : List Nat} {m' : Wm} (hP : P = 5 ∨ P = 10) (h : CodeX P cl m) (f : Fx (RS S) m m') (e : S.elem 1 = false) : CodeX P cl m' := by
  have r : ∀ j k, j = 0 ∨ j = 1 → m'.1 (P + j) k = m.1 (P + j) k := fun j k hj => f.at (nRS e (rg_1 hP hj))
  exact ⟨(r 0 4 (Or.inl rfl)).trans h.1, h.2.1.k (fun k => r 1 k (Or.inr rfl)), h.2.2⟩
theorem rg_14 {k : Nat} (hP : P = 5 ∨ P = 10) : rg (P + 2) k = 14 := by rcases hP with rfl | rfl <;> rfl
theorem wV (hP : P = 5 ∨ P = 10) (w : WT m) {k : Nat} {x : Int32} : WT (uI m (P + 2) k x) := by rcases hP with rfl | rfl; exact w.n rfl; exact w.n rfl
theorem fV (hP : P = 5 ∨ P = 10) (f : Fx (RS [14]) m0 m) {k : Nat} {x : Int32} : Fx (RS [14]) m0 (uI m (P + 2) k x) := f.i (by unfold RS; rw [rg_14 hP]; rfl)
set_option maxHeartbeats 1000000 in
theorem e_value (hb : SS b ρ) (hρ : ([14] : List Nat).elem ρ = false) (hP : P = 5 ∨ P = 10) (w : WT m) (h : HC b m g) (hs : s < 8) (ha : ar ≤ 4) (hX : CodeX P cl m)
    (hv : cl ≠ [] → evR (ltF g.1 g.2.1 g.2.2.1 ar s) cl [] = some [v]) : Ct ad μX5_value (d + 3) [.ref (ad P), .ref (ad b), .int (nI s), .int (nI ar)] m (fun r m' => WT m' ∧ Fx (RS [14]) m m' ∧ r = some (.int (if cl = [] then smF g.1 (4 * s) ar else clM v))) := by
  obtain ⟨x1, x2, x3⟩ := hX
  refine v_X5_value (Ru_of hP) hb.1 ⟨fun c => ?_, fun c => ?_⟩
  · have hn : cl ≠ [] := fun q => c (by rw [x1, q]; rfl)
    have hv1 := hv hn
    rw [if_neg hn]
    have L : ∀ (n i : Nat) (σ : List Int32) (m1 : Wm), i + n = cl.length → WT m1 → Fx (RS [14]) m m1 → evR (ltF g.1 g.2.1 g.2.2.1 ar s) (cl.drop n) [] = some σ → LCel m1 (P + 2) σ → σ.length ≤ i →
        AW ad E0 μX5_value (d + 2 + 1) (fun r m' => WT m' ∧ Fx (RS [14]) m m' ∧ r = some (.int (clM v))) 20 [(0, .ref (ad P)), (1, .ref (ad b)), (2, .int (nI s)), (3, .int (nI ar)), (4, .int (nI σ.length)), (5, .int (nI i))] [] m1 := by
      intro n
      induction n with
      | zero =>
        intro i σ m1 hi w1 f1 hσ hL hl
        have k4 : m1.1 P 4 = nI cl.length := (f1.at (nRS (ρ := 1) rfl (rg_1 (j := 0) hP (Or.inl rfl)))).trans x1
        have e1 : σ = [v] := by
          have : evR (ltF g.1 g.2.1 g.2.2.1 ar s) (cl.drop 0) [] = some [v] := hv1
          rw [this] at hσ
          exact (Option.some.inj hσ).symm
        subst e1
        have ev0 : m1.1 (P + 2) 0 = v := hL 0 (Nat.lt_succ_self 0)
        refine g_X5_value_20 (Ru_of hP) hb.1 ⟨fun _ => ?_, fun c => absurd (by rw [k4]; exact (nI_leI (by omega) (by omega)).mpr (by omega)) c⟩
        have e00 : (0 : Int32).toNatClampNeg = 0 := rfl
        rw [e00, ev0]
        refine (clampC (by decide)).to ?_
        rintro _ m2 ⟨eq, rfl⟩
        obtain rfl := eq.symm
        exact ⟨_, rfl, w1, f1, rfl⟩
      | succ n ih =>
        intro i σ m1 hi w1 f1 hσ hL hl
        have k4 : m1.1 P 4 = nI cl.length := (f1.at (nRS (ρ := 1) rfl (rg_1 (j := 0) hP (Or.inl rfl)))).trans x1
        have H1 : HC b m1 g := h.fx hb f1 hρ
        have ex : m1.1 (P + 1) i = cAt cl n := ((f1.at (nRS (ρ := 1) rfl (rg_1 (j := 1) hP (Or.inr rfl)))).trans (x2 i (by omega))).trans (by rw [show cl.length - 1 - i = n by omega])
        have ed := drop_c cl n (by omega)
        obtain ⟨υ, hυ⟩ := ev_suf cl [] [v] hv1 n
        rw [ed, evR_c hσ] at hυ
        have hυ2 : evR (ltF g.1 g.2.1 g.2.2.1 ar s) (cl.drop n) [] = some υ := by rw [ed, evR_c hσ]; exact hυ
        generalize cAt cl n = x at ex hυ
        have hs40 : σ.length < 40 := by omega
        have psh : ∀ y, υ = y :: σ → AW ad E0 μX5_value (d + 2 + 1) (fun r m' => WT m' ∧ Fx (RS [14]) m m' ∧ r = some (.int (clM v))) 20 [(0, .ref (ad P)), (1, .ref (ad b)), (2, .int (nI s)), (3, .int (nI ar)), (4, .int (nI σ.length + (1 : Int32))), (5, .int (nI i + (1 : Int32)))] [] (uI m1 (P + 2) (nI σ.length).toNatClampNeg y) := fun y hy => by
          subst hy
          rw [nI_clamp (by omega), nI_1, nI_1]
          exact ih (i + 1) (y :: σ) _ (by omega) (wV hP w1) (fV hP f1) hυ2 hL.c (by rw [List.length_cons]; omega)
        refine g_X5_value_20 (Ru_of hP) hb.1 ⟨fun c => absurd (by rw [k4] at c; exact (nI_leI (by omega) (by omega)).mp c) (by omega), fun _ => ?_⟩
        rw [nI_clamp (by omega), ex]
        refine ⟨nat_in (by omega) (by decide), fun c => (e_rank).to ?_, fun c => ?_⟩
        · rintro _ m2 ⟨eq, rfl⟩
          obtain rfl := eq.symm
          refine ⟨_, rfl, ?_⟩
          have n1 : ¬ x < 1000 := fun q => by have := z_le c; have := z_lt q; omega
          have rk := rk_4 (c := x - 1000)
          unfold evS at hυ
          rw [if_neg n1] at hυ
          refine g_X5_value_59 (Ru_of hP) hb.1 ⟨fun q => ?_, fun q => ⟨fun q2 => absurd ((le_l 40 40 rfl (by decide) (by omega)).mp q2) (by omega), fun _ => ⟨fun _ => ?_, fun q2 => absurd c q2⟩⟩⟩
          · have r0 : ¬ rkN (x - 1000) = 0 := fun z => q (by rw [z]; rfl)
            rw [if_neg r0] at hυ
            refine g_X5_value_111 (Ru_of hP) hb.1 ⟨fun q4 => ?_, fun q4 => ?_⟩
            · have r4 : ¬ rkN (x - 1000) = 4 := fun z => q4 (by rw [z]; rfl)
              rw [if_neg r4] at hυ
              obtain ⟨y, z, r, rfl, hυr⟩ : ∃ y z r, σ = y :: z :: r ∧ υ = jnF (x - 1000) z y :: r := by
                cases σ with
                | nil => cases hυ
                | cons y σ =>
                  cases σ with
                  | nil => cases hυ
                  | cons z r => exact ⟨y, z, r, rfl, (Option.some.inj hυ).symm⟩
              rw [List.length_cons, List.length_cons] at hs40 hl
              have el : nI (y :: z :: r).length = nI (r.length + 2) := by rw [List.length_cons, List.length_cons]
              have ea : nI (r.length + 2) + (-1 : Int32) = nI (r.length + 1) := by
                have := nI_sb (a := r.length + 2) (b := 1) (by omega) (by omega)
                rw [Int32.sub_eq_add_neg] at this
                exact this
              have eb : nI (r.length + 1) - (1 : Int32) = nI r.length := nI_sb (a := r.length + 1) (b := 1) (by omega) (by omega)
              rw [el]
              refine g_X5_value_144 (Ru_of hP) hb.1 ⟨fun q2 => absurd ((l_le 1 1 rfl (by decide) (by omega)).mp q2) (by omega), fun _ => ?_⟩
              have hz : m1.1 (P + 2) r.length = z := hL.t.h
              have hy : m1.1 (P + 2) (r.length + 1) = y := hL.h
              rw [ea, eb, nI_clamp (by omega), nI_clamp (by omega), hz, hy]
              refine ⟨nat_in (by omega) (by decide), nat_in (by omega) (by decide), (joinC).to ?_⟩
              rintro _ m2 ⟨eq, rfl⟩
              obtain rfl := eq.symm
              subst hυr
              refine ⟨_, rfl, nat_in (by omega) (by decide), ?_⟩
              rw [nI_1]
              have := ih (i + 1) (jnF (x - 1000) z y :: r) (uI m1 (P + 2) r.length (jnF (x - 1000) z y)) (by omega) (wV hP w1) (fV hP f1) hυ2 (hL.t.t.c) (by rw [List.length_cons]; omega)
              rw [List.length_cons] at this
              exact this
            · have r4 : rkN (x - 1000) = 4 := (nI_eq (a := rkN (x - 1000)) (b := 4) (by omega) (by omega)).mp q4
              rw [if_pos r4] at hυ
              obtain ⟨y, r, rfl, hυr⟩ : ∃ y r, σ = y :: r ∧ υ = (-y) :: r := by
                cases σ with
                | nil => cases hυ
                | cons y r => exact ⟨y, r, rfl, (Option.some.inj hυ).symm⟩
              rw [List.length_cons] at hs40 hl
              have el : nI (y :: r).length = nI (r.length + 1) := by rw [List.length_cons]
              have eb : nI (r.length + 1) - (1 : Int32) = nI r.length := nI_sb (a := r.length + 1) (b := 1) (by omega) (by omega)
              rw [el]
              refine ⟨fun q2 => absurd ((l_le 0 0 rfl (by decide) (by omega)).mp q2) (by omega), fun _ => ?_⟩
              have hy : m1.1 (P + 2) r.length = y := hL.h
              rw [eb, nI_clamp (by omega), hy, nI_1]
              subst hυr
              refine ⟨nat_in (by omega) (by decide), nat_in (by omega) (by decide), ?_⟩
              have := ih (i + 1) ((-y) :: r) (uI m1 (P + 2) r.length (-y)) (by omega) (wV hP w1) (fV hP f1) hυ2 (hL.t.c) (by rw [List.length_cons]; omega)
              rw [List.length_cons] at this
              exact this
          · have r0 : rkN (x - 1000) = 0 := (nI_eq (a := rkN (x - 1000)) (b := 0) (by omega) (by omega)).mp q
            rw [if_pos r0] at hυ
            by_cases hl2 : isLt (x - 1000)
            · rw [if_pos hl2] at hυ
              refine (thingC (d := d) hb H1 hs ha hl2).to ?_
              rintro _ m2 ⟨eq, rfl⟩
              obtain rfl := eq.symm
              exact ⟨_, rfl, nat_in hs40 (by decide), psh _ (Option.some.inj hυ).symm⟩
            · rw [if_neg hl2] at hυ
              cases hυ
        · have n1 : x < 1000 := (fa_lt _ _).mpr (z_nle c)
          unfold evS at hυ
          rw [if_pos n1] at hυ
          exact g_X5_value_59 (Ru_of hP) hb.1 ⟨fun q => absurd rfl q, fun _ => ⟨fun q2 => absurd ((le_l 40 40 rfl (by decide) (by omega)).mp q2) (by omega), fun _ => ⟨fun q2 => absurd q2 c, fun _ => ⟨nat_in hs40 (by decide), psh _ (Option.some.inj hυ).symm⟩⟩⟩⟩
    exact L cl.length 0 [] m (by omega) w Fx.rf (by rw [List.drop_length]; rfl) (fun i hi => absurd hi (Nat.not_lt_zero i)) (Nat.le_refl _)
  · have hn : cl = [] := by
      rw [x1] at c
      exact List.eq_nil_of_length_eq_zero ((nI_eq (a := cl.length) (b := 0) (by omega) (by decide)).mp c)
    rw [if_pos hn]
    refine (sumC hb h hs ha).to ?_
    rintro _ m1 ⟨eq, rfl⟩
    obtain rfl := eq.symm
    exact ⟨_, rfl, w, Fx.rf, rfl⟩
end VAL
/-! A GAME SETTLED: points, who teaches whom; the class's side -/
def artL (s : Nat → Int32) (f t : Nat) : Nat → Nat → Int32 → Int32 → Int32
  | 0, _, bst, _ => bst
  | k + 1, a, bst, w => if s (4 * f + a) - s (4 * t + a) ≤ w then artL s f t k (a + 1) bst w else artL s f t k (a + 1) (nI a) (s (4 * f + a) - s (4 * t + a))
def artG (s : Nat → Int32) (f t n : Nat) : Int32 := artL s f t n 0 (-1) 0
def gnG (il : Bool) (up have_ own : Int32) : Int32 := if il = true then 0 else if own - have_ < up then own - have_ else up
def clS (x : Int32) : Int32 := if 0 < (if x < 7 then x else 7) then (if x < 7 then x else 7) else 0
def gainG (v : EV) (f t : Nat) (g : GS) : Int32 := gnG (iE v f) (lE v 1) (g.1 (4 * t + (artG g.1 f t (aE v)).toNatClampNeg)) (g.1 (4 * f + (artG g.1 f t (aE v)).toNatClampNeg))
def tchG (cn : Bool) (v : EV) (f t : Nat) (g : GS) : GS :=
  if artG g.1 f t (aE v) = -1 then g else
    (upd (upd g.1 (4 * t + (artG g.1 f t (aE v)).toNatClampNeg) (g.1 (4 * t + (artG g.1 f t (aE v)).toNatClampNeg) + gainG v f t g)) (4 * f + (artG g.1 f t (aE v)).toNatClampNeg) (clS (g.1 (4 * f + (artG g.1 f t (aE v)).toNatClampNeg) + lE v 2 - 1)),
     g.2.1, (if cn = true then upd g.2.2.1 f (g.2.2.1 f + gainG v f t g) else g.2.2.1), g.2.2.2)
def ptG (a b : Nat) (won : Int32) (g : GS) : GS :=
  (g.1, (if won = 2 then upd (upd g.2.1 a (g.2.1 a + 1)) b (upd g.2.1 a (g.2.1 a + 1) b + 1) else upd g.2.1 (if won = 0 then a else b) (g.2.1 (if won = 0 then a else b) + 3)), g.2.2)
def stl1 (cn : Bool) (v : EV) (w l : Nat) (g : GS) : GS := if lE v 0 = 0 ∨ lE v 0 = 2 then tchG cn v w l g else g
def stl2 (cn : Bool) (v : EV) (w l : Nat) (g : GS) : GS := if lE v 0 = 1 ∨ lE v 0 = 2 then tchG cn v l w g else g
/-- by POINTS and RAISED if they count -/
def stlG (cn : Bool) (v : EV) (a b : Nat) (won : Int32) (g : GS) : GS :=
  if won = 2 then (if cn = true then ptG a b won g else g)
  else stl2 cn v (if won = 0 then a else b) (if won = 0 then b else a) (stl1 cn v (if won = 0 then a else b) (if won = 0 then b else a) (if cn = true then ptG a b won g else g))
theorem artL_of {s : Nat → Int32} {f t : Nat} : ∀ (k a : Nat) (bst w : Int32), (bst = -1 ∨ ∃ j, j < a ∧ bst = nI j) → artL s f t k a bst w = -1 ∨ ∃ j, j < a + k ∧ artL s f t k a bst w = nI j := by
  intro k
  induction k with
  | zero => intro a bst w h; exact h
  | succ k ih =>
    intro a bst w h
    have e : artL s f t (k + 1) a bst w = if s (4 * f + a) - s (4 * t + a) ≤ w then artL s f t k (a + 1) bst w else artL s f t k (a + 1) (nI a) (s (4 * f + a) - s (4 * t + a)) := rfl
    rw [e, show a + (k + 1) = a + 1 + k by omega]
    by_cases c : s (4 * f + a) - s (4 * t + a) ≤ w
    · rw [if_pos c]
      exact ih _ _ _ (h.imp id (fun ⟨j, hj, e⟩ => ⟨j, by omega, e⟩))
    · rw [if_neg c]
      exact ih _ _ _ (Or.inr ⟨a, by omega, rfl⟩)
theorem artG_of {s : Nat → Int32} {f t n : Nat} : artG s f t n = -1 ∨ ∃ j, j < n ∧ artG s f t n = nI j := by
  have := artL_of (s := s) (f := f) (t := t) n 0 (-1) 0 (Or.inl rfl)
  rw [Nat.zero_add] at this
  exact this
theorem upd_eq {p q : Nat → Int32} {i k : Nat} {x : Int32} (h : p k = q k) : upd p i x k = upd q i x k := by
  unfold upd
  by_cases e : k = i
  · rw [if_pos e, if_pos e]
  · rw [if_neg e, if_neg e]; exact h
def GR (ρ : Nat) : Prop := ρ = 3 ∨ ρ = 4 ∨ ρ = 5 ∨ ρ = 6 ∨ ρ = 11 ∨ ρ = 12 ∨ ρ = 13
theorem clampS {ad : Nat → Nat} {d : Nat} {m : Wm} {x : Int32} : Ct ad μX11_clamp d [.int x, .int 0, .int 7] m (fun r m' => m' = m ∧ r = some (.int (clS x))) := (clampC (by decide)).to (fun r m1 h => h)
section STL
variable {ad : Nat → Nat} {d b ρ f t : Nat} {m m' m0 : Wm} {g : GS} {v : EV} {S : List Nat}
theorem GR.e1 (h : GR ρ) : ([2, ρ] : List Nat).all (fun x => !(([1, 41, 42, 43] : List Nat).elem x)) = true := by rcases h with rfl | rfl | rfl | rfl | rfl | rfl | rfl <;> rfl
theorem GR.e2 (h : GR ρ) : ([14] : List Nat).elem ρ = false := by rcases h with rfl | rfl | rfl | rfl | rfl | rfl | rfl <;> rfl
theorem GR.e3 (h : GR ρ) : ([2] : List Nat).elem ρ = false := by rcases h with rfl | rfl | rfl | rfl | rfl | rfl | rfl <;> rfl
theorem SS.wu (hb : SS b ρ) (w : WT m) {j k : Nat} {x : Int32} (hj : j ≤ 4) : WT (uI m (b + j) k x) := w.n (hb.2 j k hj).2
theorem SS.fu (hb : SS b ρ) (h : Fx (RS [2, ρ]) m0 m) {j k : Nat} {x : Int32} (hj : j ≤ 4) : Fx (RS [2, ρ]) m0 (uI m (b + j) k x) := h.i (by
  unfold RS
  rw [(hb.2 j k hj).1]
  exact List.elem_eq_true_of_mem (by simp))
theorem HC.sk (h : HC b m g) {i : Nat} {x : Int32} : HC b (uI m (b + 1) i x) (upd g.1 i x, g.2) := by
  obtain ⟨h1, h2, h3, h4, h5⟩ := h
  refine ⟨fun k hk => ?_, fun k hk => (u_ne (by omega)).trans (h2 k hk), fun k hk => (u_ne (by omega)).trans (h3 k hk), fun k hk => (u_ne (by omega)).trans (h4 k hk), (u_ne (by omega)).trans h5⟩
  rw [uI_row]
  exact upd_eq (h1 k hk)
theorem HC.pt (h : HC b m g) {i : Nat} {x : Int32} : HC b (uI m (b + 2) i x) (g.1, upd g.2.1 i x, g.2.2) := by
  obtain ⟨h1, h2, h3, h4, h5⟩ := h
  refine ⟨fun k hk => (u_ne (by omega)).trans (h1 k hk), fun k hk => ?_, fun k hk => (u_ne (by omega)).trans (h3 k hk), fun k hk => (u_ne (by omega)).trans (h4 k hk), (u_ne (by omega)).trans h5⟩
  rw [uI_row]
  exact upd_eq (h2 k hk)
theorem HC.ra (h : HC b m g) {i : Nat} {x : Int32} : HC b (uI m (b + 3) i x) (g.1, g.2.1, upd g.2.2.1 i x, g.2.2.2) := by
  obtain ⟨h1, h2, h3, h4, h5⟩ := h
  refine ⟨fun k hk => (u_ne (by omega)).trans (h1 k hk), fun k hk => (u_ne (by omega)).trans (h2 k hk), fun k hk => ?_, fun k hk => (u_ne (by omega)).trans (h4 k hk), (u_ne (by omega)).trans h5⟩
  rw [uI_row]
  exact upd_eq (h3 k hk)
theorem HC.th (h : HC b m g) {i : Nat} {x : Int32} : HC b (uI m (b + 4) i x) (g.1, g.2.1, g.2.2.1, upd g.2.2.2.1 i x, g.2.2.2.2) := by
  obtain ⟨h1, h2, h3, h4, h5⟩ := h
  refine ⟨fun k hk => (u_ne (by omega)).trans (h1 k hk), fun k hk => (u_ne (by omega)).trans (h2 k hk), fun k hk => (u_ne (by omega)).trans (h3 k hk), fun k hk => ?_, (u_ne (by omega)).trans h5⟩
  rw [uI_row]
  exact upd_eq (h4 k hk)
theorem HC.lu (h : HC b m g) {x : Int32} : HC b (uI m b 4 x) (g.1, g.2.1, g.2.2.1, g.2.2.2.1, x) := by
  obtain ⟨h1, h2, h3, h4, h5⟩ := h
  exact ⟨fun k hk => (u_ne (by omega)).trans (h1 k hk), fun k hk => (u_ne (by omega)).trans (h2 k hk), fun k hk => (u_ne (by omega)).trans (h3 k hk), fun k hk => (u_ne (by omega)).trans (h4 k hk), u_eq⟩
theorem HC.o (h : HC b m g) {a i : Nat} {x : Int32} (hn : ¬ (b ≤ a ∧ a ≤ b + 4)) : HC b (uI m a i x) g := by
  obtain ⟨h1, h2, h3, h4, h5⟩ := h
  exact ⟨fun k hk => (u_ne (by omega)).trans (h1 k hk), fun k hk => (u_ne (by omega)).trans (h2 k hk), fun k hk => (u_ne (by omega)).trans (h3 k hk), fun k hk => (u_ne (by omega)).trans (h4 k hk), (u_ne (by omega)).trans h5⟩
theorem furthC (hb : SS b ρ) (h : HC b m g) (hf : f < 8) (ht : t < 8) {ar : Nat} (ha : ar ≤ 4) : Ct ad μX8_furthestArt (d + 1) [.ref (ad b), .int (nI f), .int (nI t), .int (nI ar)] m (fun r m' => m' = m ∧ r = some (.int (artG g.1 f t ar))) := by
  refine v_X8_furthestArt hb.1 ?_
  rw [ix_beg hf, ix_beg ht]
  have L : ∀ (k a : Nat) (bst w : Int32), a + k = ar → AW ad E0 μX8_furthestArt (d + 1) (fun r m' => m' = m ∧ r = some (.int (artL g.1 f t k a bst w))) 27 [(0, .ref (ad b)), (3, .int (nI ar)), (4, .int bst), (5, .int w), (6, .int (nI (4 * f))), (7, .int (nI (4 * t))), (8, .int (nI a))] [] m := by
    intro k
    induction k with
    | zero =>
      intro a bst w hk
      exact g_X8_furthestArt_27 hb.1 ⟨fun _ => ⟨rfl, rfl⟩, fun c => absurd ((nI_leI (by omega) (by omega)).mpr (by omega)) c⟩
    | succ k ih =>
      intro a bst w hk
      have e : artL g.1 f t (k + 1) a bst w = if g.1 (4 * f + a) - g.1 (4 * t + a) ≤ w then artL g.1 f t k (a + 1) bst w else artL g.1 f t k (a + 1) (nI a) (g.1 (4 * f + a) - g.1 (4 * t + a)) := rfl
      rw [e]
      refine g_X8_furthestArt_27 hb.1 ⟨fun c => absurd ((nI_leI (by omega) (by omega)).mp c) (by omega), fun _ => ?_⟩
      rw [nI_add, nI_add, nI_1, nI_clamp (by omega), nI_clamp (by omega), h.1 (4 * f + a) (by omega), h.1 (4 * t + a) (by omega)]
      refine ⟨fun c => absurd ((le_l 32 32 rfl (by decide) (by omega)).mp c) (by omega), fun _ => ⟨fun c => absurd ((le_l 32 32 rfl (by decide) (by omega)).mp c) (by omega), fun _ => ⟨nat_in (by omega) (by decide), nat_in (by omega) (by decide), fun c => ?_, fun c => ?_⟩⟩⟩
      · rw [if_pos c]; exact ih _ _ _ (by omega)
      · rw [if_neg c]; exact ih _ _ _ (by omega)
  exact L ar 0 (-1) 0 (by omega)
theorem bit_0 (x : Int32) {k : Nat} (hk : k < 31) : ((x >>> (nI k &&& 31)) &&& 1) = 0 ↔ bt x k = false := by
  have h1 := bit_q x hk
  have h2 := t_and1 (x >>> (nI k &&& 31))
  generalize (x >>> (nI k &&& 31)) &&& 1 = y at h1 h2
  constructor
  · intro q
    cases z : bt x k with
    | false => rfl
    | true => have := h1.mpr z; rw [q] at this; exact absurd this (by decide)
  · intro q
    have n1 : ¬ y = 1 := fun z => by have := h1.mp z; rw [q] at this; cases this
    have z1 : (1 : Int32).toInt = 1 := rfl
    have z0 : (0 : Int32).toInt = 0 := rfl
    have := z_ne n1
    exact (fa_eq _ _).mpr (by omega)
theorem isIllC (h : illC m (iE v)) {s : Nat} (hs : s < 8) : Ct ad μX1_isIll d [.ref (ad 3), .int (nI s)] m (fun r m' => m' = m ∧ r = some (.int (if iE v s = true then 1 else 0))) := by
  have hb := h s hs
  refine v_X1_isIll ⟨fun c => ⟨rfl, ?_⟩, fun c => ⟨rfl, ?_⟩⟩
  · have := (bit_0 _ (by omega)).mp c
    rw [hb] at this
    rw [if_neg (by rw [this]; decide)]
  · have : iE v s = true := by
      cases e : iE v s with
      | true => rfl
      | false => exact absurd ((bit_0 _ (by omega)).mpr (hb.trans e)) c
    rw [if_pos this]
set_option maxHeartbeats 1000000 in
theorem teachC (hb : SS b ρ) (hρ : GR ρ) (w : WT m) (f0 : Fx (RS [2, ρ]) m0 m) (h : HC b m g) (hE : EC m v) (hf : f < 8) (ht : t < 8) (hft : f ≠ t) {x4 : Int32} {cn : Bool} (hc : x4 = 0 ↔ cn = false) :
    Ct ad μX1_teach (d + 2) [.ref (ad 3), .ref (ad b), .int (nI f), .int (nI t), .int x4] m (fun r m' => r = none ∧ WT m' ∧ Fx (RS [2, ρ]) m0 m' ∧ HC b m' (tchG cn v f t g)) := by
  obtain ⟨e1, e2, e3, e4, e5, e6, e7⟩ := hE
  refine v_X1_teach hb.1 ?_
  rw [e2]
  refine (furthC (d := d) hb h hf ht e4).to ?_
  rintro _ m1 ⟨eq, rfl⟩
  obtain rfl := eq.symm
  refine ⟨_, rfl, fun c => ?_, fun c => ⟨rfl, w, f0, ?_⟩⟩
  · rcases artG_of (s := g.1) (f := f) (t := t) (n := aE v) with q | ⟨a, ha, q⟩
    · exact absurd q c
    have G : tchG cn v f t g = (upd (upd g.1 (4 * t + a) (g.1 (4 * t + a) + gnG (iE v f) (lE v 1) (g.1 (4 * t + a)) (g.1 (4 * f + a)))) (4 * f + a) (clS (g.1 (4 * f + a) + lE v 2 - 1)), g.2.1, (if cn = true then upd g.2.2.1 f (g.2.2.1 f + gnG (iE v f) (lE v 1) (g.1 (4 * t + a)) (g.1 (4 * f + a))) else g.2.2.1), g.2.2.2) := by
      unfold tchG gainG
      rw [if_neg c, q, nI_clamp (by omega)]
    rw [G, q]
    refine (skillC (d := d + 1) hb h ht (a := a) (by omega)).to ?_
    rintro _ m2 ⟨eq, rfl⟩
    obtain rfl := eq.symm
    refine ⟨_, rfl, (skillC (d := d + 1) hb h hf (a := a) (by omega)).to ?_⟩
    rintro _ m3 ⟨eq, rfl⟩
    obtain rfl := eq.symm
    refine ⟨_, rfl, (isIllC (d := d + 1) (v := v) e6.1 hf).to ?_⟩
    rintro _ m4 ⟨eq, rfl⟩
    obtain rfl := eq.symm
    generalize hn : gnG (iE v f) (lE v 1) (g.1 (4 * t + a)) (g.1 (4 * f + a)) = n
    have go : AW ad E0 μX1_teach (d + 1 + 1) (fun r m' => r = none ∧ WT m' ∧ Fx (RS [2, ρ]) m0 m' ∧ HC b m' (upd (upd g.1 (4 * t + a) (g.1 (4 * t + a) + n)) (4 * f + a) (clS (g.1 (4 * f + a) + lE v 2 - 1)), g.2.1, (if cn = true then upd g.2.2.1 f (g.2.2.1 f + n) else g.2.2.1), g.2.2.2)) 63 [(0, .ref (ad 3)), (1, .ref (ad b)), (2, .int (nI f)), (3, .int (nI t)), (4, .int x4), (5, .int (nI a)), (6, .int (g.1 (4 * t + a))), (7, .int (g.1 (4 * f + a)))] [.int n] m := by
      refine g_X1_teach_63 hb.1 ((putC (d := d + 1) hb ht (a := a) (by omega)).to ?_)
      rintro _ m5 ⟨rfl, rfl⟩
      have l2 : (uI m (b + 1) (4 * t + a) (g.1 (4 * t + a) + n)).1 4 2 = lE v 2 := (Fx.at (SS.fu hb (Fx.rf (m := m)) (j := 1) (by decide)) (a := 4) (k := 2) (nRS (ρ := 43) (all_ne (L := [1, 41, 42, 43]) hρ.e1 rfl) rfl)).trans (e5 2 (by decide))
      have e22 : (2 : Int32).toNatClampNeg = 2 := rfl
      rw [e22, l2]
      refine ⟨rfl, (clampS (d := d + 1)).to ?_⟩
      rintro _ m6 ⟨eq, rfl⟩
      obtain rfl := eq.symm
      refine ⟨_, rfl, (putC (d := d + 1) hb hf (a := a) (by omega)).to ?_⟩
      rintro _ m7 ⟨rfl, rfl⟩
      have w7 : WT (uI (uI m (b + 1) (4 * t + a) (g.1 (4 * t + a) + n)) (b + 1) (4 * f + a) (clS (g.1 (4 * f + a) + lE v 2 - 1))) := hb.wu (hb.wu w (by decide)) (by decide)
      have f7 : Fx (RS [2, ρ]) m0 (uI (uI m (b + 1) (4 * t + a) (g.1 (4 * t + a) + n)) (b + 1) (4 * f + a) (clS (g.1 (4 * f + a) + lE v 2 - 1))) := hb.fu (hb.fu f0 (by decide)) (by decide)
      have H7 : HC b (uI (uI m (b + 1) (4 * t + a) (g.1 (4 * t + a) + n)) (b + 1) (4 * f + a) (clS (g.1 (4 * f + a) + lE v 2 - 1))) (upd (upd g.1 (4 * t + a) (g.1 (4 * t + a) + n)) (4 * f + a) (clS (g.1 (4 * f + a) + lE v 2 - 1)), g.2) := (h.sk).sk
      have z : ∀ (m8 : Wm) (g8 : GS), WT m8 → Fx (RS [2, ρ]) m0 m8 → HC b m8 g8 → AW ad E0 μX1_teach (d + 1 + 1) (fun r m' => r = none ∧ WT m' ∧ Fx (RS [2, ρ]) m0 m' ∧ HC b m' g8) 117 [(0, .ref (ad 3)), (5, .int (nI a)), (8, .int n)] [] m8 := fun m8 g8 w8 f8 H8 => by
        have hb3 : ¬ (b ≤ 3 ∧ 3 ≤ b + 4) := fun q => by
          have r3 := (hb.2 (3 - b) 3 (by omega)).1
          rw [show b + (3 - b) = 3 by omega] at r3
          have r4 : rg 3 3 = 41 := rfl
          rw [r4] at r3
          rcases hρ with z | z | z | z | z | z | z <;> omega
        exact g_X1_teach_117 ⟨fun _ => ⟨rfl, w8, f8, H8⟩, fun _ => ⟨rfl, (w8.n rfl).n rfl, (f8.i (show RS [2, ρ] 3 6 from rfl)).i (show RS [2, ρ] 3 7 from rfl), (H8.o hb3).o hb3⟩⟩
      refine ⟨rfl, fun q => ?_, fun q => ?_⟩
      · rw [if_neg (by rw [hc.mp q]; decide)]
        exact z _ _ w7 f7 H7
      · have hcn : cn = true := by
          cases e : cn with
          | true => rfl
          | false => exact absurd (hc.mpr e) q
        rw [if_pos hcn, nI_clamp (by omega), H7.2.2.1 f hf]
        exact ⟨nat_in hf (by decide), nat_in hf (by decide), z _ _ (hb.wu w7 (by decide)) (hb.fu f7 (by decide)) H7.ra⟩
    have e11 : (1 : Int32).toNatClampNeg = 1 := rfl
    rw [e11, e5 1 (by decide)]
    refine ⟨_, rfl, fun q => ?_, fun q => ?_⟩
    · have hi : ¬ iE v f = true := fun z => by rw [if_pos z] at q; exact absurd q (by decide)
      have en : (if g.1 (4 * f + a) - g.1 (4 * t + a) < lE v 1 then g.1 (4 * f + a) - g.1 (4 * t + a) else lE v 1) = n := by rw [← hn]; unfold gnG; rw [if_neg hi]
      rw [en]
      exact go
    · have hi : iE v f = true := by
        cases e : iE v f with
        | true => rfl
        | false => exact absurd (by rw [e]; rfl) q
      have en : (0 : Int32) = n := by rw [← hn]; unfold gnG; rw [if_pos hi]
      rw [en]
      exact go
  · unfold tchG
    rw [if_pos c]
    exact h
end STL
section STM
variable {ad : Nat → Nat} {d b ρ a e f t : Nat} {m m' m0 : Wm} {g : GS} {v : EV} {S : List Nat}
theorem nI_r {k n : Nat} (hk : k < 2147483648) (hn : n < 2147483648) (h : ¬ k = n) : ¬ nI k = nI n := fun q => h ((nI_eq hk hn).mp q)
theorem pointsC (hb : SS b ρ) (w : WT m) (f0 : Fx (RS [2, ρ]) m0 m) (h : HC b m g) (ha : a < 8) (he : e < 8) {x : Int32} : Ct ad μX1_givePoints d [.ref (ad b), .int (nI a), .int (nI e), .int x] m (fun r m' => r = none ∧ WT m' ∧ Fx (RS [2, ρ]) m0 m' ∧ HC b m' (ptG a e x g)) := by
  have p0 := h.2.1
  refine v_X1_givePoints hb.1 ?_
  rw [nI_clamp (by omega), nI_clamp (by omega), p0 a ha, p0 e he]
  have V1 : vp_in (nI a) 8 := nat_in ha (by decide)
  have V2 : vp_in (nI e) 8 := nat_in he (by decide)
  refine ⟨fun n2 => ⟨fun n0 => ⟨V2, V2, rfl, hb.wu w (by decide), hb.fu f0 (by decide), ?_⟩, fun q0 => ⟨V1, V1, rfl, hb.wu w (by decide), hb.fu f0 (by decide), ?_⟩⟩, fun q2 => ⟨V1, V1, V2, V2, rfl, hb.wu (hb.wu w (by decide)) (by decide), hb.fu (hb.fu f0 (by decide)) (by decide), ?_⟩⟩
  · unfold ptG
    rw [if_neg n2, if_neg n0]
    exact h.pt
  · unfold ptG
    rw [if_neg n2, if_pos q0]
    exact h.pt
  · have e1 : (uI m (b + 2) a (g.2.1 a + 1)).1 (b + 2) e = upd g.2.1 a (g.2.1 a + 1) e := h.pt.2.1 e he
    rw [e1]
    unfold ptG
    rw [if_pos q2]
    exact (h.pt).pt
theorem settleC (hb : SS b ρ) (hρ : GR ρ) (w : WT m) (h : HC b m g) (hE : EC m v) (ha : a < 8) (he : e < 8) (hae : a ≠ e) {x4 x5 : Int32} {cn : Bool} (hc : x5 = 0 ↔ cn = false) :
    Ct ad μX1_settle (d + 3) [.ref (ad 3), .ref (ad b), .int (nI a), .int (nI e), .int x4, .int x5] m (fun r m' => r = none ∧ WT m' ∧ Fx (RS [2, ρ]) m m' ∧ HC b m' (stlG cn v a e x4 g)) := by
  have e00 : (0 : Int32).toNatClampNeg = 0 := rfl
  have hb3 : ¬ (b ≤ 3 ∧ 3 ≤ b + 4) := fun q => by
    have r3 := (hb.2 (3 - b) 3 (by omega)).1
    rw [show b + (3 - b) = 3 by omega] at r3
    have r4 : rg 3 3 = 41 := rfl
    rw [r4] at r3
    rcases hρ with z | z | z | z | z | z | z <;> omega
  have lw0 : ∀ m1, Fx (RS [2, ρ]) m m1 → m1.1 4 0 = lE v 0 := fun m1 f1 => (f1.at (nRS (ρ := 43) (all_ne (L := [1, 41, 42, 43]) hρ.e1 rfl) rfl)).trans (hE.2.2.2.2.1 0 (by decide))
  -- who won, who lost
  have WL : ∀ (wi lo : Nat) (g1 : GS) (m1 : Wm), wi < 8 → lo < 8 → wi ≠ lo → WT m1 → Fx (RS [2, ρ]) m m1 → HC b m1 g1 → AW ad E0 μX1_settle (d + 2 + 1) (fun r m' => r = none ∧ WT m' ∧ Fx (RS [2, ρ]) m m' ∧ HC b m' (stl2 cn v wi lo (stl1 cn v wi lo g1))) 52 [(0, .ref (ad 3)), (1, .ref (ad b)), (5, .int x5), (6, .int (nI wi))] [.int (nI lo)] m1 := by
    intro wi lo g1 m1 hwi hlo hwl w1 f1 H1
    have B : ∀ (g2 : GS) (m2 : Wm), WT m2 → Fx (RS [2, ρ]) m m2 → HC b m2 g2 → AW ad E0 μX1_settle (d + 2 + 1) (fun r m' => r = none ∧ WT m' ∧ Fx (RS [2, ρ]) m m' ∧ HC b m' (stl2 cn v wi lo g2)) 84 [(0, .ref (ad 3)), (1, .ref (ad b)), (5, .int x5), (6, .int (nI wi)), (7, .int (nI lo))] [] m2 := by
      intro g2 m2 w2 f2 H2
      have T : lE v 0 = 1 ∨ lE v 0 = 2 → AW ad E0 μX1_settle (d + 2 + 1) (fun r m' => r = none ∧ WT m' ∧ Fx (RS [2, ρ]) m m' ∧ HC b m' (stl2 cn v wi lo g2)) 104 [(0, .ref (ad 3)), (1, .ref (ad b)), (5, .int x5), (6, .int (nI wi)), (7, .int (nI lo))] [] m2 := fun q => by
        refine g_X1_settle_104 hb.1 ((teachC (d := d) hb hρ w2 f2 H2 (hE.fx f2 hρ.e1) hlo hwi (Ne.symm hwl) hc).to ?_)
        rintro _ m3 ⟨rfl, w3, f3, H3⟩
        refine ⟨rfl, rfl, w3, f3, ?_⟩
        unfold stl2
        rw [if_pos q]
        exact H3
      refine g_X1_settle_84 hb.1 ?_
      rw [e00, lw0 m2 f2]
      refine ⟨fun q => T (Or.inl q), fun n1 => ⟨fun n2 => ⟨rfl, w2, f2, ?_⟩, fun q => T (Or.inr q)⟩⟩
      unfold stl2
      rw [if_neg (fun z => z.elim n1 n2)]
      exact H2
    have T : lE v 0 = 0 ∨ lE v 0 = 2 → Ct ad μX1_teach (d + 2) [.ref (ad 3), .ref (ad b), .int (nI wi), .int (nI lo), .int x5] m1 (fun r m2 => r = none ∧ AW ad E0 μX1_settle (d + 2 + 1) (fun r m' => r = none ∧ WT m' ∧ Fx (RS [2, ρ]) m m' ∧ HC b m' (stl2 cn v wi lo (stl1 cn v wi lo g1))) 84 [(0, .ref (ad 3)), (1, .ref (ad b)), (5, .int x5), (6, .int (nI wi)), (7, .int (nI lo))] [] m2) := fun q => by
      refine (teachC (d := d) hb hρ w1 f1 H1 (hE.fx f1 hρ.e1) hwi hlo hwl hc).to ?_
      rintro _ m3 ⟨rfl, w3, f3, H3⟩
      refine ⟨rfl, ?_⟩
      have es : stl1 cn v wi lo g1 = tchG cn v wi lo g1 := if_pos q
      rw [es]
      exact B _ _ w3 f3 H3
    refine g_X1_settle_52 hb.1 ?_
    rw [e00, lw0 m1 f1]
    refine ⟨fun q => T (Or.inl q), fun n0 => ⟨fun n2 => ?_, fun q => T (Or.inr q)⟩⟩
    have es : stl1 cn v wi lo g1 = g1 := if_neg (fun z => z.elim n0 n2)
    rw [es]
    exact B _ _ w1 f1 H1
  -- behind the points
  have A : ∀ (g1 : GS) (m1 : Wm), (g1 = if cn = true then ptG a e x4 g else g) → WT m1 → Fx (RS [2, ρ]) m m1 → HC b m1 g1 → AW ad E0 μX1_settle (d + 2 + 1) (fun r m' => r = none ∧ WT m' ∧ Fx (RS [2, ρ]) m m' ∧ HC b m' (stlG cn v a e x4 g)) 23 [(0, .ref (ad 3)), (1, .ref (ad b)), (2, .int (nI a)), (3, .int (nI e)), (4, .int x4), (5, .int x5)] [] m1 := by
    intro g1 m1 hg w1 f1 H1
    refine g_X1_settle_23 hb.1 ⟨fun n2 => ⟨fun n0 => ⟨fun _ => ?_, fun q => absurd q n0⟩, fun q0 => ⟨fun q => absurd q0 q, fun _ => ?_⟩⟩, fun q2 => ⟨rfl, w1, f1, ?_⟩⟩
    · unfold stlG
      rw [if_neg n2, if_neg n0, if_neg n0, ← hg]
      exact WL e a g1 m1 he ha (Ne.symm hae) w1 f1 H1
    · unfold stlG
      rw [if_neg n2, if_pos q0, if_pos q0, ← hg]
      exact WL a e g1 m1 ha he hae w1 f1 H1
    · unfold stlG
      rw [if_pos q2, ← hg]
      exact H1
  have w2 : WT (uI (uI m 3 6 (-1 : Int32)) 3 7 (0 : Int32)) := (w.n rfl).n rfl
  have f2 : Fx (RS [2, ρ]) m (uI (uI m 3 6 (-1 : Int32)) 3 7 (0 : Int32)) := ((Fx.rf (S := RS [2, ρ])).i (show RS [2, ρ] 3 6 from rfl)).i (show RS [2, ρ] 3 7 from rfl)
  have H2 : HC b (uI (uI m 3 6 (-1 : Int32)) 3 7 (0 : Int32)) g := (h.o hb3).o hb3
  refine v_X1_settle hb.1 ⟨fun q => ?_, fun q => (pointsC (d := d + 2) hb w2 f2 H2 ha he).to ?_⟩
  · exact A g _ (by rw [hc.mp q]; rfl) w2 f2 H2
  · rintro _ m1 ⟨rfl, w1, f1, H1⟩
    have hcn : cn = true := by
      cases hc2 : cn with
      | true => rfl
      | false => exact absurd (hc.mpr hc2) q
    exact ⟨rfl, A _ m1 (by rw [if_pos hcn]) w1 f1 H1⟩
end STM
/-! what a side can do, who wins, the chance -/
def pwG (v : EV) (g : GS) (s : Nat) : Int32 := pwF (tE v) (zE v) g.1 g.2.1 g.2.2.1 (aE v) s
def rsG (v : EV) (x : Int32) : Int32 := if x ≤ lE v 3 then (if -x ≤ lE v 3 then 2 else 1) else 0
def wnG (v : EV) (g : GS) (a b : Nat) (th : Int32) : Int32 := if th = 1 then 1 else if th = 2 then 0 else if th = 3 then 2 else rsG v (pwG v g a - pwG v g b)
def clH (x : Int32) : Int32 := if 0 < (if x < 100 then x else 100) then (if x < 100 then x else 100) else 0
def chG (v : EV) (g : GS) (a b : Nat) : Int32 := clH (50 + lE v 4 * (pwG v g a - pwG v g b))
theorem clampH {ad : Nat → Nat} {d : Nat} {m : Wm} {x : Int32} : Ct ad μX11_clamp d [.int x, .int 0, .int 100] m (fun r m' => m' = m ∧ r = some (.int (clH x))) := (clampC (by decide)).to (fun r m1 h => h)
section RES
variable {ad : Nat → Nat} {d b ρ a e s : Nat} {m m' m0 : Wm} {g : GS} {v : EV}
theorem fr14 {m1 : Wm} (f : Fx (RS [14]) m m1) : Fx (RS [14]) m m1 := f
/-- the class's power, by the rule in force -/
theorem valueC (hb : SS b ρ) (hρ : GR ρ) (w : WT m) (h : HC b m g) (hE : EC m v) (hs : s < 8) : ∃ P, m.2.2 3 1 = some P ∧ Ru P ∧ Ct ad μX5_value (d + 3) [.ref (ad P), .ref (ad b), .int (nI s), .int (nI (aE v))] m (fun r m' => WT m' ∧ Fx (RS [14]) m m' ∧ r = some (.int (pwG v g s))) := by
  obtain ⟨e1, e2, e3, e4, e5, e6, P, Q, hR, cl, hX, hv⟩ := hE
  have hP : P = 5 ∨ P = 10 := by have := hR.2.2; omega
  refine ⟨P, hR.1, Ru_of hP, ?_⟩
  rcases hv with ⟨hz, hn⟩ | ⟨hz, hn, hv⟩
  · refine (e_value (v := 0) hb hρ.e2 hP w h hs e4 hX (fun q => absurd hn q)).to ?_
    rintro r m1 ⟨w1, f1, rfl⟩
    refine ⟨w1, f1, ?_⟩
    unfold pwG pwF
    rw [if_pos hn, if_pos hz]
  · refine (e_value hb hρ.e2 hP w h hs e4 hX (fun _ => hv _)).to ?_
    rintro r m1 ⟨w1, f1, rfl⟩
    refine ⟨w1, f1, ?_⟩
    unfold pwG pwF
    rw [if_neg hn, if_neg hz]
theorem resultOfC (h : ∀ k, k < 5 → m.1 4 k = lE v k) {x : Int32} : Ct ad μX1_resultOf d [.ref (ad 3), .int x] m (fun r m' => m' = m ∧ r = some (.int (rsG v x))) := by
  have e33 : (3 : Int32).toNatClampNeg = 3 := rfl
  refine v_X1_resultOf ?_
  rw [e33, h 3 (by decide)]
  unfold rsG
  exact ⟨fun c => ⟨fun c2 => ⟨rfl, by rw [if_pos c, if_pos c2]⟩, fun c2 => ⟨rfl, by rw [if_pos c, if_neg c2]⟩⟩, fun c => ⟨rfl, by rw [if_neg c]⟩⟩
theorem resultC (hb : SS b ρ) (hρ : GR ρ) (w : WT m) (h : HC b m g) (hE : EC m v) (ha : a < 8) (he : e < 8) {th : Int32} (ht : th = 0 ∨ th = 1 ∨ th = 2 ∨ th = 3) : Ct ad μX1_result (d + 4) [.ref (ad 3), .ref (ad b), .int (nI a), .int (nI e), .int th] m (fun r m' => WT m' ∧ Fx (RS [14]) m m' ∧ r = some (.int (wnG v g a e th))) := by
  refine v_X1_result (d := d + 3) hb.1 ⟨fun n3 => ⟨fun q0 => ?_, fun n0 => ⟨fun n1 => ⟨w, Fx.rf, ?_⟩, fun q1 => ⟨w, Fx.rf, ?_⟩⟩⟩, fun q3 => ⟨w, Fx.rf, ?_⟩⟩
  · subst q0
    obtain ⟨P, hP, hRu, hV⟩ := valueC (ad := ad) (d := d) hb hρ w h hE ha
    refine ⟨P, hP, hRu, ?_⟩
    rw [hE.2.1]
    refine hV.to ?_
    rintro _ m1 ⟨w1, f1, rfl⟩
    have H1 := h.fx hb f1 hρ.e2
    have E1 := hE.fx f1 rfl
    obtain ⟨P2, hP2, hRu2, hV2⟩ := valueC (ad := ad) (d := d) hb hρ w1 H1 E1 he
    refine ⟨_, rfl, P2, hP2, hRu2, ?_⟩
    rw [E1.2.1]
    refine hV2.to ?_
    rintro _ m2 ⟨w2, f2, rfl⟩
    refine ⟨_, rfl, (resultOfC (d := d + 3) (v := v) (E1.fx f2 rfl).2.2.2.2.1).to ?_⟩
    rintro _ m3 ⟨eq, rfl⟩
    obtain rfl := eq.symm
    exact ⟨_, rfl, w2, f1.tr f2 (fun _ _ h => h), rfl⟩
  · rcases ht with q | q | q | q
    · exact absurd q n0
    · exact absurd q n1
    · rw [q]; rfl
    · exact absurd q n3
  · rw [q1]; rfl
  · rw [q3]; rfl
theorem chanceC (hb : SS b ρ) (hρ : GR ρ) (w : WT m) (h : HC b m g) (hE : EC m v) (ha : a < 8) (he : e < 8) : Ct ad μX1_chance (d + 4) [.ref (ad 3), .ref (ad b), .int (nI a), .int (nI e)] m (fun r m' => WT m' ∧ Fx (RS [14]) m m' ∧ r = some (.int (chG v g a e))) := by
  have e44 : (4 : Int32).toNatClampNeg = 4 := rfl
  obtain ⟨P, hP, hRu, hV⟩ := valueC (ad := ad) (d := d) hb hρ w h hE ha
  refine v_X1_chance (d := d + 3) hb.1 ⟨P, hP, hRu, ?_⟩
  rw [hE.2.1, e44, hE.2.2.2.2.1 4 (by decide)]
  refine hV.to ?_
  rintro _ m1 ⟨w1, f1, rfl⟩
  have H1 := h.fx hb f1 hρ.e2
  have E1 := hE.fx f1 rfl
  obtain ⟨P2, hP2, hRu2, hV2⟩ := valueC (ad := ad) (d := d) hb hρ w1 H1 E1 he
  refine ⟨_, rfl, P2, hP2, hRu2, ?_⟩
  rw [E1.2.1]
  refine hV2.to ?_
  rintro _ m2 ⟨w2, f2, rfl⟩
  refine ⟨_, rfl, (clampH (d := d + 3)).to ?_⟩
  rintro _ m3 ⟨eq, rfl⟩
  obtain rfl := eq.symm
  exact ⟨_, rfl, w2, f1.tr f2 (fun _ _ h => h), rfl⟩
end RES
end
section
/-! THE MODEL'S SIDE OF A GAME -/
section CHG
variable {f f' p p' h h' rt rt' : Nat → Int32}
theorem smF_ch {i : Nat} : ∀ n, (∀ k, i ≤ k → k < i + n → f k = f' k) → smF f i n = smF f' i n := by
  intro n
  induction n with
  | zero => intro _; rfl
  | succ n ih =>
    intro e
    show smF f i n + f (i + n) = smF f' i n + f' (i + n)
    rw [ih (fun k a b => e k a (by omega)), e (i + n) (by omega) (by omega)]
theorem mxF_ch {i : Nat} : ∀ n, (∀ k, i ≤ k → k < i + n → f k = f' k) → mxF f i n = mxF f' i n := by
  intro n
  induction n with
  | zero => intro _; rfl
  | succ n ih =>
    intro e
    show (if mxF f i n < f (i + n) then f (i + n) else mxF f i n) = (if mxF f' i n < f' (i + n) then f' (i + n) else mxF f' i n)
    rw [ih (fun k a b => e k a (by omega)), e (i + n) (by omega) (by omega)]
theorem mnF_ch {i : Nat} : ∀ n, (∀ k, i ≤ k → k < i + n → f k = f' k) → mnF f i n = mnF f' i n := by
  intro n
  induction n with
  | zero => intro _; rfl
  | succ n ih =>
    intro e
    show (if f (i + n) < mnF f i n then f (i + n) else mnF f i n) = (if f' (i + n) < mnF f' i n then f' (i + n) else mnF f' i n)
    rw [ih (fun k a b => e k a (by omega)), e (i + n) (by omega) (by omega)]
theorem ltF_ch {ar s : Nat} (ha : ar ≤ 4) (h1 : ∀ k, 4 * s ≤ k → k < 4 * s + 4 → f k = f' k) (h2 : p s = p' s) (h3 : h s = h' s) : ltF f p h ar s = ltF f' p' h' ar s := funext fun c => by
  unfold ltF
  rw [mnF_ch ar (fun k a b => h1 k a (by omega)), mxF_ch ar (fun k a b => h1 k a (by omega)), smF_ch ar (fun k a b => h1 k a (by omega)), h2, h3]
  by_cases q : 0 ≤ c - 97 ∧ c - 97 ≤ nI ar - 1
  · have z0 : (0 : Int32).toInt = 0 := rfl
    have z1 : (1 : Int32).toInt = 1 := rfl
    have q1 := z_le q.1
    have q2 := z_le q.2
    have q3 : (nI ar).toInt = ar := nI_toInt (by omega)
    have q4 := ti_sub (x := nI ar) (y := (1 : Int32)) (by omega)
    have q5 := tn (x := c - 97) (by omega)
    rw [if_pos q, if_pos q, h1 (4 * s + (c - 97).toNatClampNeg) (by omega) (by omega)]
  · rw [if_neg q, if_neg q]
theorem pwF_ch {ar s z : Nat} (ha : ar ≤ 4) (h0 : ∀ k, k < z → rt k = rt' k) (h1 : ∀ k, 4 * s ≤ k → k < 4 * s + 4 → f k = f' k) (h2 : p s = p' s) (h3 : h s = h' s) : pwF rt z f p h ar s = pwF rt' z f' p' h' ar s := by
  unfold pwF
  rw [smF_ch ar (fun k a b => h1 k a (by omega)), ltF_ch ha h1 h2 h3, prF_ch h0]
end CHG
def thG (th : Int32) (a b : Nat) (g : GS) : GS :=
  (g.1, g.2.1, g.2.2.1, (if th = 2 ∨ th = 3 then upd (if th = 1 ∨ th = 3 then upd g.2.2.2.1 a (g.2.2.2.1 a + 1) else g.2.2.2.1) b ((if th = 1 ∨ th = 3 then upd g.2.2.2.1 a (g.2.2.2.1 a + 1) else g.2.2.2.1) b + 1) else (if th = 1 ∨ th = 3 then upd g.2.2.2.1 a (g.2.2.2.1 a + 1) else g.2.2.2.1)), g.2.2.2.2)
def luG (x : Int32) : Int32 := x * (1103515245 : Int32) + (12345 : Int32)
def hdG (x : Int32) : Int32 := (((x.toUInt32 >>> ((16 : Int32).toUInt32 &&& Int32.toUInt32 31)).toInt32) - ((x.toUInt32 >>> ((16 : Int32).toUInt32 &&& Int32.toUInt32 31)).toInt32) / (100 : Int32) * (100 : Int32))
abbrev byG (lk : Bool) (v : EV) (th : Int32) : Prop := lk = true ∧ ¬ lE v 4 ≤ 0 ∧ th = 0
/-- who wins: by luck, or as it must be -/
def wonG (lk : Bool) (v : EV) (a b : Nat) (th : Int32) (g : GS) : Int32 := if byG lk v th then (if chG v g a b ≤ hdG (luG g.2.2.2.2) then 1 else 0) else wnG v g a b th
def drwG (lk : Bool) (v : EV) (th : Int32) (g : GS) : GS := if byG lk v th then (g.1, g.2.1, g.2.2.1, g.2.2.2.1, luG g.2.2.2.2) else g
def goG (lk : Bool) (v : EV) (a b : Nat) (th : Int32) (g : GS) : GS := stlG true v a b (wonG lk v a b th g) (thG th a b (drwG lk v th g))
section MOD
variable {ad : Nat → Nat} {d s f t a e : Nat} {m m' m0 : Wm} {g : GS} {v : EV} {S : List Nat}
theorem HM.sk {n : Nat} (h : HM n m g) {i : Nat} {x : Int32} : HM n (uI m 188 i x) (upd g.1 i x, g.2) := by
  obtain ⟨h1, h2, h3, h4, h5⟩ := h
  refine ⟨fun k hk => ?_, h2, h3, h4, h5⟩
  rw [uI_row]
  exact upd_eq (h1 k hk)
theorem HM.pt {n : Nat} (h : HM n m g) {i : Nat} {x : Int32} : HM n (uI m 190 i x) (g.1, upd g.2.1 i x, g.2.2) := by
  obtain ⟨h1, h2, h3, h4, h5⟩ := h
  refine ⟨h1, fun k hk => ?_, h3, h4, h5⟩
  rw [uI_row]
  exact upd_eq (h2 k hk)
theorem HM.ra {n : Nat} (h : HM n m g) {i : Nat} {x : Int32} : HM n (uI m 191 i x) (g.1, g.2.1, upd g.2.2.1 i x, g.2.2.2) := by
  obtain ⟨h1, h2, h3, h4, h5⟩ := h
  refine ⟨h1, h2, fun k hk => ?_, h4, h5⟩
  rw [uI_row]
  exact upd_eq (h3 k hk)
theorem HM.th {n : Nat} (h : HM n m g) {i : Nat} {x : Int32} : HM n (uI m 192 i x) (g.1, g.2.1, g.2.2.1, upd g.2.2.2.1 i x, g.2.2.2.2) := by
  obtain ⟨h1, h2, h3, h4, h5⟩ := h
  refine ⟨h1, h2, h3, fun k hk => ?_, h5⟩
  rw [uI_row]
  exact upd_eq (h4 k hk)
theorem HM.lu {n : Nat} (h : HM n m g) {x : Int32} : HM n (uI m 187 8 x) (g.1, g.2.1, g.2.2.1, g.2.2.2.1, x) := by
  obtain ⟨h1, h2, h3, h4, h5⟩ := h
  exact ⟨h1, h2, h3, h4, u_eq⟩
theorem m_ix {x y : Nat} : (4 : Int32) * nI x + nI y = nI (4 * x + y) := by rw [l_mul 4 4 rfl, nI_add]
theorem artM (h : HM (nE v) m g) (hE : EM m v) (hf : f < nE v) (ht : t < nE v) : Ct ad μX12_artOf d [.ref (ad 187), .int (nI f), .int (nI t)] m (fun r m' => m' = m ∧ r = some (.int (artG g.1 f t (aE v)))) := by
  have ha4 := hE.2.2.2.1
  have hn8 := hE.2.2.1
  have L : ∀ (k a : Nat) (bst w : Int32), a + k = aE v → AW ad E0 μX12_artOf d (fun r m' => m' = m ∧ r = some (.int (artL g.1 f t k a bst w))) 8 [(0, .ref (ad 187)), (1, .int (nI f)), (2, .int (nI t)), (3, .int bst), (4, .int w), (5, .int (nI a))] [] m := by
    intro k
    induction k with
    | zero =>
      intro a bst w hk
      exact g_X12_artOf_8 ⟨fun _ => ⟨rfl, rfl⟩, fun c => absurd (by rw [hE.2.1]; exact (nI_leI (by omega) (by omega)).mpr (by omega)) c⟩
    | succ k ih =>
      intro a bst w hk
      have e : artL g.1 f t (k + 1) a bst w = if g.1 (4 * f + a) - g.1 (4 * t + a) ≤ w then artL g.1 f t k (a + 1) bst w else artL g.1 f t k (a + 1) (nI a) (g.1 (4 * f + a) - g.1 (4 * t + a)) := rfl
      rw [e]
      refine g_X12_artOf_8 ⟨fun c => absurd (by rw [hE.2.1] at c; exact (nI_leI (by omega) (by omega)).mp c) (by omega), fun _ => ?_⟩
      rw [m_ix, m_ix, nI_1, nI_clamp (by omega), nI_clamp (by omega), h.1 (4 * f + a) (by omega), h.1 (4 * t + a) (by omega)]
      refine ⟨nat_in (by omega) (by decide), nat_in (by omega) (by decide), fun c => ?_, fun c => ?_⟩
      · rw [if_neg (fun q => by have := z_lt c; have := z_le q; omega)]; exact ih _ _ _ (by omega)
      · rw [if_pos ((fa_le _ _).mpr (z_nlt c))]; exact ih _ _ _ (by omega)
  exact v_X12_artOf (L (aE v) 0 (-1) 0 (by omega))
theorem gainM (h : HM (nE v) m g) (hE : EM m v) (hf : f < nE v) (ht : t < nE v) {a : Nat} (ha : a < 4) : Ct ad μX12_gainOf (d + 1) [.ref (ad 187), .int (nI f), .int (nI t), .int (nI a)] m (fun r m' => m' = m ∧ r = some (.int (gnG (iE v f) (lE v 1) (g.1 (4 * t + a)) (g.1 (4 * f + a))))) := by
  have e11 : (1 : Int32).toNatClampNeg = 1 := rfl
  have hn8 := hE.2.2.1
  refine v_X12_gainOf ?_
  rw [m_ix, m_ix, nI_clamp (by omega), nI_clamp (by omega), nI_clamp (by omega), h.1 (4 * f + a) (by omega), h.1 (4 * t + a) (by omega), e11, hE.2.2.2.2.1 1 (by decide), hE.2.2.2.2.2.1 f hf]
  refine ⟨nat_in (by omega) (by decide), fun c => ⟨nat_in (by omega) (by decide), nat_in (by omega) (by decide), rfl, ?_⟩, fun c => ⟨rfl, ?_⟩⟩
  · have hi : ¬ iE v f = true := fun z => by rw [if_pos z] at c; exact absurd c (by decide)
    unfold gnG
    rw [if_neg hi]
  · have hi : iE v f = true := by
      cases q : iE v f with
      | true => rfl
      | false => exact absurd (by rw [q]; rfl) c
    unfold gnG
    rw [if_pos hi]
set_option maxHeartbeats 1000000 in
theorem teachM (w : WT m) (f0 : Fx (RS [24]) m0 m) (h : HM (nE v) m g) (hE : EM m v) (hf : f < nE v) (ht : t < nE v) (hft : f ≠ t) : Ct ad μX12_teach (d + 2) [.ref (ad 187), .int (nI f), .int (nI t)] m (fun r m' => r = none ∧ WT m' ∧ Fx (RS [24]) m0 m' ∧ HM (nE v) m' (tchG true v f t g)) := by
  have e22 : (2 : Int32).toNatClampNeg = 2 := rfl
  have ha4 := hE.2.2.2.1
  have hn8 := hE.2.2.1
  refine v_X12_teach (d := d + 1) ((artM (d := d + 1) h hE hf ht).to ?_)
  rintro _ m1 ⟨eq, rfl⟩
  obtain rfl := eq.symm
  refine ⟨_, rfl, fun c => ?_, fun c => ⟨rfl, w, f0, ?_⟩⟩
  · rcases artG_of (s := g.1) (f := f) (t := t) (n := aE v) with q | ⟨a, ha, q⟩
    · exact absurd q c
    have G : tchG true v f t g = (upd (upd g.1 (4 * t + a) (g.1 (4 * t + a) + gnG (iE v f) (lE v 1) (g.1 (4 * t + a)) (g.1 (4 * f + a)))) (4 * f + a) (clS (g.1 (4 * f + a) + lE v 2 - 1)), g.2.1, upd g.2.2.1 f (g.2.2.1 f + gnG (iE v f) (lE v 1) (g.1 (4 * t + a)) (g.1 (4 * f + a))), g.2.2.2) := by
      unfold tchG gainG
      rw [if_neg c, q, nI_clamp (by omega), if_pos rfl]
    rw [G, q]
    refine (gainM (d := d) h hE hf ht (a := a) (by omega)).to ?_
    rintro _ m2 ⟨eq, rfl⟩
    obtain rfl := eq.symm
    generalize gnG (iE v f) (lE v 1) (g.1 (4 * t + a)) (g.1 (4 * f + a)) = n
    refine ⟨_, rfl, ?_⟩
    rw [m_ix, m_ix, nI_clamp (by omega), nI_clamp (by omega), nI_clamp (by omega), h.1 (4 * t + a) (by omega), e22]
    have r1 : (uI m 188 (4 * t + a) (g.1 (4 * t + a) + n)).1 191 f = g.2.2.1 f := h.2.2.1 f hf
    rw [r1]
    have r2 : (uI (uI m 188 (4 * t + a) (g.1 (4 * t + a) + n)) 191 f (g.2.2.1 f + n)).1 188 (4 * f + a) = g.1 (4 * f + a) := (u_ne (by omega)).trans ((u_ne (by omega)).trans (h.1 (4 * f + a) (by omega)))
    have r3 : (uI (uI m 188 (4 * t + a) (g.1 (4 * t + a) + n)) 191 f (g.2.2.1 f + n)).1 193 2 = lE v 2 := hE.2.2.2.2.1 2 (by decide)
    rw [r2, r3]
    have V1 : vp_in (nI (4 * t + a)) 32 := nat_in (by omega) (by decide)
    have V2 : vp_in (nI (4 * f + a)) 32 := nat_in (by omega) (by decide)
    have V3 : vp_in (nI f) 8 := nat_in (by omega) (by decide)
    exact ⟨V1, V1, V3, V3, V2, V2, rfl, ((w.n rfl).n rfl).n rfl, ((f0.i rfl).i rfl).i rfl, ((h.sk).ra).sk⟩
  · unfold tchG
    rw [if_pos c]
    exact h
theorem hasM_3 {th y : Int32} (hy : y = 0 ∨ y = 1) (ht : th = 0 ∨ th = 1 ∨ th = 2 ∨ th = 3) : Ct ad μX12_has d [.int th, .int y] m (fun r m' => m' = m ∧ r = some (.int (if (y = 0 ∧ (th = 1 ∨ th = 3)) ∨ (y = 1 ∧ (th = 2 ∨ th = 3)) then 1 else 0))) := by
  refine (hasM_ok).to ?_
  rintro _ m1 ⟨eq, rfl⟩
  refine ⟨eq, congrArg (fun z => some (Value.int z)) ?_⟩
  rcases hy with rfl | rfl <;> rcases ht with rfl | rfl | rfl | rfl <;> decide
set_option maxHeartbeats 1000000 in
theorem settleM (w : WT m) (h : HM (nE v) m g) (hE : EM m v) (ha : a < nE v) (he : e < nE v) (hae : a ≠ e) {th x4 : Int32} (ht : th = 0 ∨ th = 1 ∨ th = 2 ∨ th = 3) :
    Ct ad μX12_settle (d + 3) [.ref (ad 187), .int (nI a), .int (nI e), .int th, .int x4] m (fun r m' => r = none ∧ WT m' ∧ Fx (RS [24]) m m' ∧ HM (nE v) m' (stlG true v a e x4 (thG th a e g))) := by
  have e00 : (0 : Int32).toNatClampNeg = 0 := rfl
  have hn8 := hE.2.2.1
  have lw0 : ∀ m1, Fx (RS [24]) m m1 → m1.1 193 0 = lE v 0 := fun m1 f1 => (f1.at (nRS (ρ := 47) rfl rfl)).trans (hE.2.2.2.2.1 0 (by decide))
  have V1 : vp_in (nI a) 8 := nat_in (by omega) (by decide)
  have V2 : vp_in (nI e) 8 := nat_in (by omega) (by decide)
  have WL : ∀ (wi lo : Nat) (g1 : GS) (m1 : Wm), wi < nE v → lo < nE v → wi ≠ lo → WT m1 → Fx (RS [24]) m m1 → HM (nE v) m1 g1 → AW ad E0 μX12_settle (d + 2 + 1) (fun r m' => r = none ∧ WT m' ∧ Fx (RS [24]) m m' ∧ HM (nE v) m' (stl2 true v wi lo (stl1 true v wi lo (g1.1, upd g1.2.1 wi (g1.2.1 wi + 3), g1.2.2)))) 85 [(0, .ref (ad 187)), (5, .int (nI wi))] [.int (nI lo)] m1 := by
    intro wi lo g1 m1 hwi hlo hwl w1 f1 H1
    have B : ∀ (g2 : GS) (m2 : Wm), WT m2 → Fx (RS [24]) m m2 → HM (nE v) m2 g2 → AW ad E0 μX12_settle (d + 2 + 1) (fun r m' => r = none ∧ WT m' ∧ Fx (RS [24]) m m' ∧ HM (nE v) m' (stl2 true v wi lo g2)) 125 [(0, .ref (ad 187)), (5, .int (nI wi)), (6, .int (nI lo))] [] m2 := by
      intro g2 m2 w2 f2 H2
      have T : lE v 0 = 1 ∨ lE v 0 = 2 → Ct ad μX12_teach (d + 2) [.ref (ad 187), .int (nI lo), .int (nI wi)] m2 (fun r m1 => r = none ∧ WT m1 ∧ Fx (RS [24]) m m1 ∧ HM (nE v) m1 (stl2 true v wi lo g2)) := fun q => by
        refine (teachM (d := d) w2 f2 H2 (hE.fx f2 rfl) hlo hwi (Ne.symm hwl)).to ?_
        rintro _ m3 ⟨rfl, w3, f3, H3⟩
        refine ⟨rfl, w3, f3, ?_⟩
        unfold stl2
        rw [if_pos q]
        exact H3
      refine g_X12_settle_125 ?_
      rw [e00, lw0 m2 f2]
      refine ⟨fun q => (T (Or.inl q)).to (fun r m1 z => ⟨z.1, rfl, z.2⟩), fun n1 => ⟨fun n2 => ⟨rfl, w2, f2, ?_⟩, fun q => (T (Or.inr q)).to (fun r m1 z => ⟨z.1, rfl, z.2⟩)⟩⟩
      unfold stl2
      rw [if_neg (fun z => z.elim n1 n2)]
      exact H2
    have H3 : HM (nE v) (uI m1 190 wi (g1.2.1 wi + 3)) (g1.1, upd g1.2.1 wi (g1.2.1 wi + 3), g1.2.2) := H1.pt
    have w3 : WT (uI m1 190 wi (g1.2.1 wi + 3)) := w1.n rfl
    have f3 : Fx (RS [24]) m (uI m1 190 wi (g1.2.1 wi + 3)) := f1.i rfl
    generalize (g1.1, upd g1.2.1 wi (g1.2.1 wi + 3), g1.2.2) = g3 at H3 ⊢
    have T : lE v 0 = 0 ∨ lE v 0 = 2 → Ct ad μX12_teach (d + 2) [.ref (ad 187), .int (nI wi), .int (nI lo)] (uI m1 190 wi (g1.2.1 wi + 3)) (fun r m2 => r = none ∧ AW ad E0 μX12_settle (d + 2 + 1) (fun r m' => r = none ∧ WT m' ∧ Fx (RS [24]) m m' ∧ HM (nE v) m' (stl2 true v wi lo (stl1 true v wi lo g3))) 125 [(0, .ref (ad 187)), (5, .int (nI wi)), (6, .int (nI lo))] [] m2) := fun q => by
      refine (teachM (d := d) w3 f3 H3 (hE.fx f3 rfl) hwi hlo hwl).to ?_
      rintro _ m4 ⟨rfl, w4, f4, H4⟩
      refine ⟨rfl, ?_⟩
      have es : stl1 true v wi lo g3 = tchG true v wi lo g3 := if_pos q
      rw [es]
      exact B _ _ w4 f4 H4
    refine g_X12_settle_85 ?_
    rw [nI_clamp (by omega), H1.2.1 wi hwi, e00, lw0 _ f3]
    refine ⟨nat_in (by omega) (by decide), nat_in (by omega) (by decide), fun q => T (Or.inl q), fun n0 => ⟨fun n2 => ?_, fun q => T (Or.inr q)⟩⟩
    have es : stl1 true v wi lo g3 = g3 := if_neg (fun z => z.elim n0 n2)
    rw [es]
    exact B _ _ w3 f3 H3
  have A : ∀ (g1 : GS) (m1 : Wm), WT m1 → Fx (RS [24]) m m1 → HM (nE v) m1 g1 → AW ad E0 μX12_settle (d + 2 + 1) (fun r m' => r = none ∧ WT m' ∧ Fx (RS [24]) m m' ∧ HM (nE v) m' (stlG true v a e x4 g1)) 36 [(0, .ref (ad 187)), (1, .int (nI a)), (2, .int (nI e)), (4, .int x4)] [] m1 := by
    intro g1 m1 w1 f1 H1
    refine g_X12_settle_36 ⟨fun n2 => ⟨fun n0 => ⟨fun _ => ?_, fun q => absurd q n0⟩, fun q0 => ⟨fun q => absurd q0 q, fun _ => ?_⟩⟩, fun q2 => ?_⟩
    · have := WL e a g1 m1 he ha (Ne.symm hae) w1 f1 H1
      unfold stlG ptG
      rw [if_neg n2, if_neg n0, if_neg n0, if_pos rfl, if_neg n2]
      exact this
    · have := WL a e g1 m1 ha he hae w1 f1 H1
      unfold stlG ptG
      rw [if_neg n2, if_pos q0, if_pos q0, if_pos rfl, if_neg n2]
      exact this
    · rw [nI_clamp (by omega), nI_clamp (by omega), H1.2.1 a ha]
      have e1 : (uI m1 190 a (g1.2.1 a + 1)).1 190 e = upd g1.2.1 a (g1.2.1 a + 1) e := H1.pt.2.1 e he
      rw [e1]
      refine ⟨V1, V1, V2, V2, rfl, (w1.n rfl).n rfl, (f1.i rfl).i rfl, ?_⟩
      unfold stlG ptG
      rw [if_pos q2, if_pos rfl, if_pos q2]
      exact (H1.pt).pt
  have M : ∀ (g1 : GS) (m1 : Wm), WT m1 → Fx (RS [24]) m m1 → HM (nE v) m1 g1 → AW ad E0 μX12_settle (d + 2 + 1) (fun r m' => r = none ∧ WT m' ∧ Fx (RS [24]) m m' ∧ HM (nE v) m' (stlG true v a e x4 (g1.1, g1.2.1, g1.2.2.1, (if th = 2 ∨ th = 3 then upd g1.2.2.2.1 e (g1.2.2.2.1 e + 1) else g1.2.2.2.1), g1.2.2.2.2))) 18 [(0, .ref (ad 187)), (1, .int (nI a)), (2, .int (nI e)), (3, .int th), (4, .int x4)] [] m1 := by
    intro g1 m1 w1 f1 H1
    refine g_X12_settle_18 ((hasM_3 (y := 1) (Or.inr rfl) ht).to ?_)
    rintro _ m2 ⟨eq, rfl⟩
    obtain rfl := eq.symm
    refine ⟨_, rfl, fun c => ?_, fun c => ?_⟩
    · have n2 : ¬ (th = 2 ∨ th = 3) := fun z => by rw [if_pos (Or.inr ⟨rfl, z⟩)] at c; exact absurd c (by decide)
      rw [if_neg n2]
      exact A g1 m1 w1 f1 H1
    · have n2 : th = 2 ∨ th = 3 := by
        by_cases z : th = 2 ∨ th = 3
        · exact z
        · rw [if_neg (fun q => q.elim (fun q => absurd q.1 (by decide)) (fun q => z q.2))] at c; exact absurd rfl c
      rw [if_pos n2, nI_clamp (by omega), H1.2.2.2.1 e he]
      exact ⟨V2, V2, A _ _ (w1.n rfl) (f1.i rfl) H1.th⟩
  refine v_X12_settle ((hasM_3 (y := 0) (Or.inl rfl) ht).to ?_)
  rintro _ m2 ⟨eq, rfl⟩
  obtain rfl := eq.symm
  refine ⟨_, rfl, fun c => ?_, fun c => ?_⟩
  · have n2 : ¬ (th = 1 ∨ th = 3) := fun z => by rw [if_pos (Or.inl ⟨rfl, z⟩)] at c; exact absurd c (by decide)
    have := M g m w Fx.rf h
    unfold thG
    rw [if_neg n2]
    exact this
  · have n2 : th = 1 ∨ th = 3 := by
      by_cases z : th = 1 ∨ th = 3
      · exact z
      · rw [if_neg (fun q => q.elim (fun q => z q.2) (fun q => absurd q.1 (by decide)))] at c; exact absurd rfl c
    have := M _ _ (w.n (a := 192) (k := a) (v := g.2.2.2.1 a + 1) rfl) (Fx.rf.i rfl) h.th
    unfold thG
    rw [if_pos n2, nI_clamp (by omega), h.2.2.2.1 a ha]
    exact ⟨V1, V1, this⟩
end MOD
/-! WHO WINS, THE CHANCE, A GAME: the model; a game of the class -/
section MOG
variable {ad : Nat → Nat} {d s a e : Nat} {m m' m0 : Wm} {g : GS} {v : EV} {S : List Nat}
theorem powerM (w : WT m) (h : HM (nE v) m g) (hE : EM m v) (hs : s < nE v) : Ct ad μX12_power (d + 168) [.ref (ad 187), .int (nI s)] m (fun r m' => WT m' ∧ Fx (RS [22, 28]) m m' ∧ r = some (.int (pwG v g s))) := by
  have hn8 := hE.2.2.1
  refine (power_ok (d := d) w (by omega)).to ?_
  rintro r m1 ⟨w1, f1, rfl⟩
  refine ⟨w1, f1, ?_⟩
  obtain ⟨e1, e2, e3, e4, e5, e6, e7, e8, e9⟩ := hE
  have : pwM m s = pwG v g s := by
    unfold pwM pwG
    rw [e7, e2, nI_clamp (by omega), nI_clamp (by omega)]
    exact pwF_ch e4 e9 (fun k a b => h.1 k (by omega)) (h.2.1 s hs) (h.2.2.1 s hs)
  rw [this]
theorem winnerM (w : WT m) (h : HM (nE v) m g) (hE : EM m v) (ha : a < nE v) (he : e < nE v) {th : Int32} : Ct ad μX12_winner (d + 169) [.ref (ad 187), .int (nI a), .int (nI e), .int th] m (fun r m' => WT m' ∧ Fx (RS [22, 28]) m m' ∧ r = some (.int (wnG v g a e th))) := by
  have e33 : (3 : Int32).toNatClampNeg = 3 := rfl
  refine v_X12_winner (d := d + 168) ⟨fun n1 => ⟨fun n2 => ⟨fun n3 => (powerM (d := d) w h hE ha).to ?_, fun q => ⟨w, Fx.rf, ?_⟩⟩, fun q => ⟨w, Fx.rf, ?_⟩⟩, fun q => ⟨w, Fx.rf, ?_⟩⟩
  · rintro _ m1 ⟨w1, f1, rfl⟩
    have H1 := h.fx f1 rfl rfl
    have E1 := hE.fx f1 rfl
    refine ⟨_, rfl, (powerM (d := d) w1 H1 E1 he).to ?_⟩
    rintro _ m2 ⟨w2, f2, rfl⟩
    refine ⟨_, rfl, ?_⟩
    have f12 : Fx (RS [22, 28]) m m2 := f1.tr f2 (fun _ _ h => h)
    have hwn : wnG v g a e th = rsG v (pwG v g a - pwG v g e) := by
      unfold wnG
      rw [if_neg n1, if_neg n2, if_neg n3]
    rw [e33, (E1.fx f2 rfl).2.2.2.2.1 3 (by decide), hwn]
    unfold rsG
    exact ⟨fun c => ⟨fun c2 => ⟨w2, f12, by rw [if_pos c, if_pos c2]⟩, fun c2 => ⟨w2, f12, by rw [if_pos c, if_neg c2]⟩⟩, fun c => ⟨w2, f12, by rw [if_neg c]⟩⟩
  · unfold wnG; rw [if_neg n1, if_neg n2, if_pos q]
  · unfold wnG; rw [if_neg n1, if_pos q]
  · unfold wnG; rw [if_pos q]
theorem chanceM (w : WT m) (h : HM (nE v) m g) (hE : EM m v) (ha : a < nE v) (he : e < nE v) : Ct ad μX12_chanceOf (d + 169) [.ref (ad 187), .int (nI a), .int (nI e)] m (fun r m' => WT m' ∧ Fx (RS [22, 28]) m m' ∧ r = some (.int (chG v g a e))) := by
  have e44 : (4 : Int32).toNatClampNeg = 4 := rfl
  refine v_X12_chanceOf (d := d + 168) ((powerM (d := d) w h hE ha).to ?_)
  rintro _ m1 ⟨w1, f1, rfl⟩
  have H1 := h.fx f1 rfl rfl
  have E1 := hE.fx f1 rfl
  refine ⟨_, rfl, (powerM (d := d) w1 H1 E1 he).to ?_⟩
  rintro _ m2 ⟨w2, f2, rfl⟩
  refine ⟨_, rfl, w2, f1.tr f2 (fun _ _ h => h), ?_⟩
  rw [e44, hE.2.2.2.2.1 4 (by decide)]
  rfl
theorem chG_lu {x : Int32} : chG v (g.1, g.2.1, g.2.2.1, g.2.2.2.1, x) a e = chG v g a e := by
  unfold chG pwG
  dsimp only
theorem goGameM (w : WT m) (h : HM (nE v) m g) (hE : EM m v) (ha : a < nE v) (he : e < nE v) (hae : a ≠ e) {th x4 : Int32} (ht : th = 0 ∨ th = 1 ∨ th = 2 ∨ th = 3) {lk : Bool} (hl : x4 = 0 ↔ lk = false) :
    Ct ad μX12_goGame (d + 170) [.ref (ad 187), .int (nI a), .int (nI e), .int th, .int x4] m (fun r m' => WT m' ∧ Fx (RS [22, 24, 28, 49]) m m' ∧ r = some (.int (wonG lk v a e th g)) ∧ HM (nE v) m' (goG lk v a e th g)) := by
  have e44 : (4 : Int32).toNatClampNeg = 4 := rfl
  have fin : ∀ (x : Int32) (g1 : GS) (m1 : Wm), WT m1 → Fx (RS [22, 24, 28, 49]) m m1 → HM (nE v) m1 g1 → AW ad E0 μX12_goGame (d + 169 + 1) (fun r m' => WT m' ∧ Fx (RS [22, 24, 28, 49]) m m' ∧ r = some (.int x) ∧ HM (nE v) m' (stlG true v a e x (thG th a e g1))) 46 [(0, .ref (ad 187)), (1, .int (nI a)), (2, .int (nI e)), (3, .int th)] [.int x] m1 := by
    intro x g1 m1 w1 f1 H1
    refine g_X12_goGame_46 ((settleM (d := d + 166) w1 H1 (hE.fx f1 rfl) ha he hae ht).to ?_)
    rintro _ m2 ⟨rfl, w2, f2, H2⟩
    exact ⟨rfl, w2, f1.tr f2 (RS_sub rfl), rfl, H2⟩
  have plain : ¬ byG lk v th → Ct ad μX12_winner (d + 169) [.ref (ad 187), .int (nI a), .int (nI e), .int th] m (fun r m1 => ∃ x : Int32, r = some (.int x) ∧ AW ad E0 μX12_goGame (d + 169 + 1) (fun r m' => WT m' ∧ Fx (RS [22, 24, 28, 49]) m m' ∧ r = some (.int (wonG lk v a e th g)) ∧ HM (nE v) m' (goG lk v a e th g)) 46 [(0, .ref (ad 187)), (1, .int (nI a)), (2, .int (nI e)), (3, .int th)] [.int x] m1) := fun hn => by
    refine (winnerM (d := d) w h hE ha he).to ?_
    rintro _ m1 ⟨w1, f1, rfl⟩
    refine ⟨_, rfl, ?_⟩
    have := fin (wnG v g a e th) g m1 w1 (Fx.tr Fx.rf f1 (RS_sub rfl)) (h.fx f1 rfl rfl)
    unfold goG wonG drwG
    rw [if_neg hn, if_neg hn]
    exact this
  refine v_X12_goGame (d := d + 169) ⟨fun q => plain (fun z => by have := hl.mp q; rw [this] at z; exact absurd z.1 (by decide)), fun q => ?_⟩
  rw [e44, hE.2.2.2.2.1 4 (by decide)]
  refine ⟨fun c => plain (fun z => z.2.1 c), fun c => ⟨fun n0 => plain (fun z => n0 z.2.2), fun q0 => ?_⟩⟩
  have hlk : lk = true := by
    cases z : lk with
    | true => rfl
    | false => exact absurd (hl.mpr z) q
  have hby : byG lk v th := ⟨hlk, c, q0⟩
  refine v_X12_drawHundred ?_
  have el : (uI m 187 8 (m.1 187 8 * 1103515245 + 12345)).1 187 8 = luG g.2.2.2.2 := by
    rw [u_eq, h.2.2.2.2]
    rfl
  rw [el]
  have w1 : WT (uI m 187 8 (m.1 187 8 * 1103515245 + 12345)) := w.n rfl
  have f1 : Fx (RS [22, 24, 28, 49]) m (uI m 187 8 (m.1 187 8 * 1103515245 + 12345)) := Fx.rf.i rfl
  have H1 : HM (nE v) (uI m 187 8 (m.1 187 8 * 1103515245 + 12345)) (g.1, g.2.1, g.2.2.1, g.2.2.2.1, luG g.2.2.2.2) := ⟨h.1, h.2.1, h.2.2.1, h.2.2.2.1, el⟩
  refine ⟨_, rfl, (chanceM (d := d) w1 H1 (hE.fx f1 rfl) ha he).to ?_⟩
  rintro _ m2 ⟨w2, f2, rfl⟩
  have f12 : Fx (RS [22, 24, 28, 49]) m m2 := f1.tr f2 (RS_sub rfl)
  have H2 := H1.fx f2 rfl rfl
  have hc : chG v (g.1, g.2.1, g.2.2.1, g.2.2.2.1, luG g.2.2.2.2) a e = chG v g a e := chG_lu
  rw [hc]
  unfold goG wonG drwG
  rw [if_pos hby, if_pos hby]
  refine ⟨_, rfl, fun c2 => ?_, fun c2 => ?_⟩
  · rw [if_pos (show chG v g a e ≤ hdG (luG g.2.2.2.2) from c2)]
    exact fin 1 _ m2 w2 f12 H2
  · rw [if_neg (show ¬ chG v g a e ≤ hdG (luG g.2.2.2.2) from c2)]
    exact fin 0 _ m2 w2 f12 H2
end MOG
section PLC
variable {ad : Nat → Nat} {d a e b0 b1 ρ0 ρ1 : Nat} {m m' m0 : Wm} {g : GS} {v : EV} {S : List Nat}
theorem copyC (w : WT m) (hb0 : SS b0 ρ0) (hb1 : SS b1 ρ1) (hd : b1 + 4 < b0 ∨ b0 + 4 < b1) (h : HC b1 m g) : Ct ad μX8_copy (d + 1) [.ref (ad b0), .ref (ad b1)] m (fun r m' => r = none ∧ WT m' ∧ Fx (RS [ρ0]) m m' ∧ HC b0 m' g) := by
  refine (e_copy w hb0 hb1 hd).to ?_
  rintro r m1 ⟨w1, f1, rfl, k1, k2, k3⟩
  exact ⟨rfl, w1, f1, fun k hk => (k1 k hk).trans (h.1 k hk), fun k hk => (k2 2 k (by decide) (by decide) hk).trans (h.2.1 k hk), fun k hk => (k2 3 k (by decide) (by decide) hk).trans (h.2.2.1 k hk), fun k hk => (k2 4 k (by decide) (by decide) hk).trans (h.2.2.2.1 k hk), k3.trans h.2.2.2.2⟩
theorem and_3 {th c : Int32} (hc : c = 1 ∨ c = 2) (ht : th = 0 ∨ th = 1 ∨ th = 2 ∨ th = 3) : (th &&& c) = 0 ↔ ¬ ((c = 1 ∧ (th = 1 ∨ th = 3)) ∨ (c = 2 ∧ (th = 2 ∨ th = 3))) := by
  rcases hc with rfl | rfl <;> rcases ht with rfl | rfl | rfl | rfl <;> decide
theorem drawnC (w : WT m) (h : HC 21 m g) (hE : EC m v) (ha : a < 8) (he : e < 8) : Ct ad μX1_drawnResult (d + 5) [.ref (ad 3), .ref (ad 21), .int (nI a), .int (nI e)] m (fun r m' => WT m' ∧ Fx (RS [4, 14]) m m' ∧ r = some (.int (if chG v g a e ≤ hdG (luG g.2.2.2.2) then 1 else 0)) ∧ HC 21 m' (g.1, g.2.1, g.2.2.1, g.2.2.2.1, luG g.2.2.2.2)) := by
  have hG : GR 4 := Or.inr (Or.inl rfl)
  refine v_X1_drawnResult (d := d + 4) SS_21.1 ((chanceC (d := d) SS_21 hG w h hE ha he).to ?_)
  rintro _ m1 ⟨w1, f1, rfl⟩
  have H1 := h.fx SS_21 f1 rfl
  have el : (uI m1 21 4 (m1.1 21 4 * 1103515245 + 12345)).1 21 4 = luG g.2.2.2.2 := by
    rw [u_eq, H1.2.2.2.2]
    rfl
  rw [el]
  have w2 : WT (uI m1 21 4 (m1.1 21 4 * 1103515245 + 12345)) := w1.n rfl
  have f2 : Fx (RS [4, 14]) m (uI m1 21 4 (m1.1 21 4 * 1103515245 + 12345)) := (Fx.tr Fx.rf f1 (RS_sub rfl)).i rfl
  have H2 : HC 21 (uI m1 21 4 (m1.1 21 4 * 1103515245 + 12345)) (g.1, g.2.1, g.2.2.1, g.2.2.2.1, luG g.2.2.2.2) := ⟨H1.1, H1.2.1, H1.2.2.1, H1.2.2.2.1, el⟩
  exact ⟨_, rfl, fun c => ⟨w2, f2, (congrArg (fun z => some (Value.int z)) (if_pos (show chG v g a e ≤ hdG (luG g.2.2.2.2) from c))).symm, H2⟩, fun c => ⟨w2, f2, (congrArg (fun z => some (Value.int z)) (if_neg (show ¬ chG v g a e ≤ hdG (luG g.2.2.2.2) from c))).symm, H2⟩⟩
/-- playNow behind what is saved -/
theorem playNow32 (w : WT m) (h : HC 21 m g) (hE : EC m v) (ha : a < 8) (he : e < 8) (hae : a ≠ e) {th s0 : Int32} (ht : th = 0 ∨ th = 1 ∨ th = 2 ∨ th = 3) (hs : s0 = 0 ↔ ¬ byG true v th) :
    AW ad E0 μX11_playNow (d + 6) (fun r m' => WT m' ∧ Fx (RS [2, 4, 14]) m m' ∧ r = some (.int (wonG true v a e th g)) ∧ HC 21 m' (goG true v a e th g)) 32 [(0, .ref (ad 0)), (1, .int (nI a)), (2, .int (nI e)), (3, .int th)] [.int s0] m := by
  have hG : GR 4 := Or.inr (Or.inl rfl)
  have V1 : vp_in (nI a) 8 := nat_in ha (by decide)
  have V2 : vp_in (nI e) 8 := nat_in he (by decide)
  have fin : ∀ (x : Int32) (g1 : GS) (m1 : Wm), WT m1 → Fx (RS [2, 4, 14]) m m1 → HC 21 m1 g1 → AW ad E0 μX11_playNow (d + 6) (fun r m' => WT m' ∧ Fx (RS [2, 4, 14]) m m' ∧ r = some (.int x) ∧ HC 21 m' (stlG true v a e x (thG th a e g1))) 69 [(0, .ref (ad 0)), (1, .int (nI a)), (2, .int (nI e)), (3, .int th)] [.int x] m1 := by
    intro x g1 m1 w1 f1 H1
    have S : ∀ (g2 : GS) (m2 : Wm), WT m2 → Fx (RS [2, 4, 14]) m m2 → HC 21 m2 g2 → AW ad E0 μX11_playNow (d + 6) (fun r m' => WT m' ∧ Fx (RS [2, 4, 14]) m m' ∧ r = some (.int x) ∧ HC 21 m' (stlG true v a e x g2)) 109 [(0, .ref (ad 0)), (1, .int (nI a)), (2, .int (nI e)), (5, .int x)] [] m2 := by
      intro g2 m2 w2 f2 H2
      refine g_X11_playNow_109 (d := d + 5) ((settleC (d := d + 2) (cn := true) SS_21 hG w2 H2 (hE.fx f2 rfl) ha he hae (by decide)).to ?_)
      rintro _ m3 ⟨rfl, w3, f3, H3⟩
      exact ⟨rfl, w3, f2.tr f3 (RS_sub rfl), rfl, H3⟩
    have T : ∀ (g2 : GS) (m2 : Wm), WT m2 → Fx (RS [2, 4, 14]) m m2 → HC 21 m2 g2 → AW ad E0 μX11_playNow (d + 6) (fun r m' => WT m' ∧ Fx (RS [2, 4, 14]) m m' ∧ r = some (.int x) ∧ HC 21 m' (stlG true v a e x (g2.1, g2.2.1, g2.2.2.1, (if th = 2 ∨ th = 3 then upd g2.2.2.2.1 e (g2.2.2.2.1 e + 1) else g2.2.2.2.1), g2.2.2.2.2))) 90 [(0, .ref (ad 0)), (1, .int (nI a)), (2, .int (nI e)), (3, .int th), (5, .int x)] [] m2 := by
      intro g2 m2 w2 f2 H2
      refine g_X11_playNow_90 (d := d + 5) ⟨fun c => ?_, fun c => ?_⟩
      · have n := (and_3 (Or.inr rfl) ht).mp c
        rw [if_neg (fun z => n (Or.inr ⟨rfl, z⟩))]
        exact S _ _ w2 f2 H2
      · have n : th = 2 ∨ th = 3 := by
          by_cases z : th = 2 ∨ th = 3
          · exact z
          · exact absurd ((and_3 (Or.inr rfl) ht).mpr (fun q => q.elim (fun q => absurd q.1 (by decide)) (fun q => z q.2))) c
        rw [if_pos n, nI_clamp (by omega), H2.2.2.2.1 e he]
        exact ⟨V2, V2, S _ _ (w2.n rfl) (f2.i rfl) H2.th⟩
    refine g_X11_playNow_69 (d := d + 5) ⟨fun c => ?_, fun c => ?_⟩
    · have n := (and_3 (Or.inl rfl) ht).mp c
      have := T _ _ w1 f1 H1
      unfold thG
      rw [if_neg (fun z => n (Or.inl ⟨rfl, z⟩))]
      exact this
    · have n : th = 1 ∨ th = 3 := by
        by_cases z : th = 1 ∨ th = 3
        · exact z
        · exact absurd ((and_3 (Or.inl rfl) ht).mpr (fun q => q.elim (fun q => z q.2) (fun q => absurd q.1 (by decide)))) c
      have := T _ _ (w1.n (a := 25) (k := a) (v := g1.2.2.2.1 a + 1) rfl) (f1.i rfl) H1.th
      unfold thG
      rw [if_pos n, nI_clamp (by omega), H1.2.2.2.1 a ha]
      exact ⟨V1, V1, this⟩
  refine g_X11_playNow_32 (d := d + 5) ⟨fun q => (resultC (d := d + 1) SS_21 hG w h hE ha he ht).to ?_, fun q => (drawnC (d := d) w h hE ha he).to ?_⟩
  · rintro _ m1 ⟨w1, f1, rfl⟩
    refine ⟨_, rfl, ?_⟩
    have := fin (wnG v g a e th) g m1 w1 (Fx.tr Fx.rf f1 (RS_sub rfl)) (h.fx SS_21 f1 rfl)
    unfold goG wonG drwG
    rw [if_neg (hs.mp q), if_neg (hs.mp q)]
    exact this
  · have hby : byG true v th := by
      by_cases z : byG true v th
      · exact z
      · exact absurd (hs.mpr z) q
    rintro _ m1 ⟨w1, f1, rfl, H1⟩
    refine ⟨_, rfl, ?_⟩
    have := fin (if chG v g a e ≤ hdG (luG g.2.2.2.2) then 1 else 0) _ m1 w1 (Fx.tr Fx.rf f1 (RS_sub rfl)) H1
    unfold goG wonG drwG
    rw [if_pos hby, if_pos hby]
    exact this
end PLC
/-! WHAT CAN BE UNDONE -/
def gAt : List GS → Nat → GS
  | [], _ => ((fun _ => 0), (fun _ => 0), (fun _ => 0), (fun _ => 0), 0)
  | g :: _, 0 => g
  | _ :: r, k + 1 => gAt r k
/-- row a holds g from x on -/
def HL (n a x : Nat) (m : Wm) (g : GS) : Prop := n ≤ 8 ∧ (∀ k, k < 4 * n → m.1 a (x + k) = g.1 k) ∧ (∀ k, k < n → m.1 a (x + 32 + 3 * k) = g.2.1 k) ∧ (∀ k, k < n → m.1 a (x + 32 + 3 * k + 1) = g.2.2.1 k) ∧ (∀ k, k < n → m.1 a (x + 32 + 3 * k + 2) = g.2.2.2.1 k) ∧ m.1 a (x + 56) = g.2.2.2.2
def UnC (m : Wm) (H : List GS) : Prop := H.length ≤ 20 ∧ m.1 31 1 = nI H.length ∧ ∃ p, p < 20 ∧ m.1 31 2 = nI p ∧ ∀ j, j < H.length → HC (33 + 5 * ((p + 20 - j) % 20)) m (gAt H j)
def UnM (n : Nat) (m : Wm) (H : List GS) : Prop := m.1 187 30 = nI H.length ∧ ∀ j, j < H.length → HL n 201 (57 * (H.length - 1 - j)) m (gAt H j)
section UND
variable {ad : Nat → Nat} {d : Nat} {m m' m0 : Wm} {g : GS} {v : EV} {S : List Nat} {H : List GS}
theorem HL.k {n a x : Nat} (h : HL n a x m g) (e : ∀ k, x ≤ k → k < x + 57 → m'.1 a k = m.1 a k) : HL n a x m' g := by
  obtain ⟨h0, h1, h2, h3, h4, h5⟩ := h
  exact ⟨h0, fun k hk => (e _ (by omega) (by omega)).trans (h1 k hk), fun k hk => (e _ (by omega) (by omega)).trans (h2 k hk), fun k hk => (e _ (by omega) (by omega)).trans (h3 k hk), fun k hk => (e _ (by omega) (by omega)).trans (h4 k hk), (e _ (by omega) (by omega)).trans h5⟩
theorem HL.mv {n a x y : Nat} (h : HL n a x m g) (e : ∀ k, k < 57 → m'.1 a (y + k) = m.1 a (x + k)) : HL n a y m' g := by
  obtain ⟨h0, h1, h2, h3, h4, h5⟩ := h
  have e2 : ∀ k r, k < 8 → r < 3 → m'.1 a (y + 32 + 3 * k + r) = m.1 a (x + 32 + 3 * k + r) := fun k r hk hr => by
    have := e (32 + 3 * k + r) (by omega)
    rw [show y + (32 + 3 * k + r) = y + 32 + 3 * k + r by omega, show x + (32 + 3 * k + r) = x + 32 + 3 * k + r by omega] at this
    exact this
  exact ⟨h0, fun k hk => (e k (by omega)).trans (h1 k hk), fun k hk => (e2 k 0 (by omega) (by decide)).trans (h2 k hk), fun k hk => (e2 k 1 (by omega) (by decide)).trans (h3 k hk), fun k hk => (e2 k 2 (by omega) (by decide)).trans (h4 k hk), (e 56 (by decide)).trans h5⟩
theorem HL.fx {n a x ρ : Nat} (h : HL n a x m g) (f : Fx (RS S) m m') (hr : ∀ k, rg a k = ρ) (e : S.elem ρ = false) : HL n a x m' g := h.k (fun k _ _ => f.at (nRS e (hr k)))
theorem SS_ring {k : Nat} (w : WT m) (hk : k < 20) : SS (33 + 5 * k) 6 := by
  obtain ⟨r, e, h⟩ := w.ring (x := nI k) (by rw [nI_toInt (by omega)]; omega) (by rw [nI_toInt (by omega)]; omega)
  rw [nI_clamp (by omega), w.ringx hk] at e
  rw [Option.some.inj e]
  exact h
theorem SS_rk {k : Nat} (hk : k < 20) : SS (33 + 5 * k) 6 := by
  have h : k = 0 ∨ k = 1 ∨ k = 2 ∨ k = 3 ∨ k = 4 ∨ k = 5 ∨ k = 6 ∨ k = 7 ∨ k = 8 ∨ k = 9 ∨ k = 10 ∨ k = 11 ∨ k = 12 ∨ k = 13 ∨ k = 14 ∨ k = 15 ∨ k = 16 ∨ k = 17 ∨ k = 18 ∨ k = 19 := by omega
  rcases h with rfl | rfl | rfl | rfl | rfl | rfl | rfl | rfl | rfl | rfl | rfl | rfl | rfl | rfl | rfl | rfl | rfl | rfl | rfl | rfl
  all_goals
    refine ⟨⟨rfl, rfl, rfl, rfl, rfl⟩, fun j k' hj => ?_⟩
    have h : j = 0 ∨ j = 1 ∨ j = 2 ∨ j = 3 ∨ j = 4 := by omega
    rcases h with rfl | rfl | rfl | rfl | rfl
    all_goals exact ⟨rfl, rfl⟩
theorem UnC.fx (h : UnC m H) (f : Fx (RS S) m m') (e1 : S.elem 6 = false) (e2 : S.elem 53 = false) : UnC m' H := by
  obtain ⟨h1, h2, p, hp, h3, h4⟩ := h
  exact ⟨h1, (f.at (nRS (ρ := 53) e2 rfl)).trans h2, p, hp, (f.at (nRS (ρ := 53) e2 rfl)).trans h3, fun j hj => (h4 j hj).fx (SS_rk (by omega)) f e1⟩
theorem UnM.fx {n : Nat} (h : UnM n m H) (f : Fx (RS S) m m') (e1 : S.elem 29 = false) : UnM n m' H := ⟨(f.at (nRS (ρ := 29) e1 rfl)).trans h.1, fun j hj => (h.2 j hj).fx f (fun _ => rfl) e1⟩
theorem HC.br {b0 b n : Nat} (h : HC b m g) (f : Fx (BR b0 n) m m') (hd : b + 4 < b0 ∨ b0 + n < b) : HC b m' g := by
  obtain ⟨h1, h2, h3, h4, h5⟩ := h
  have r : ∀ j k, j ≤ 4 → m'.1 (b + j) k = m.1 (b + j) k := fun j k hj => f.at (by unfold BR; omega)
  exact ⟨fun k hk => (r 1 k (by decide)).trans (h1 k hk), fun k hk => (r 2 k (by decide)).trans (h2 k hk), fun k hk => (r 3 k (by decide)).trans (h3 k hk), fun k hk => (r 4 k (by decide)).trans (h4 k hk), (r 0 4 (by decide)).trans h5⟩
theorem gAt_take : ∀ (H : List GS) (n j : Nat), j < n → gAt (H.take n) j = gAt H j := by
  intro H
  induction H with
  | nil => intro n j _; rw [List.take_nil]
  | cons x H ih =>
    intro n j h
    cases n with
    | zero => omega
    | succ n =>
      cases j with
      | zero => rfl
      | succ j => exact ih n j (by omega)
set_option maxHeartbeats 1000000 in
theorem saveC (w : WT m) (h : HC 21 m g) (U : UnC m H) : Ct ad μX2_save (d + 2) [.ref (ad 31), .ref (ad 21)] m (fun r m' => r = none ∧ WT m' ∧ Fx (RS [6, 53]) m m' ∧ UnC m' ((g :: H).take 20)) := by
  obtain ⟨h1, h2, p, hp, h3, h4⟩ := U
  have go : ∀ q : Nat, q < 20 → q = (p + 1) % 20 → AW ad E0 μX2_save (d + 1 + 1) (fun r m' => r = none ∧ WT m' ∧ Fx (RS [6, 53]) m m' ∧ UnC m' ((g :: H).take 20)) 22 [(0, .ref (ad 31)), (1, .ref (ad 21))] [.int (nI q), .ref (ad 31)] m := by
    intro q hq hqp
    refine g_X2_save_22 SS_21.1 ?_
    have e2 : (uI m 31 2 (nI q)).1 31 2 = nI q := u_eq
    rw [e2, nI_clamp (by omega)]
    have w1 : WT (uI m 31 2 (nI q)) := w.t rfl (by rw [nI_toInt (by omega)]; omega) (by rw [nI_toInt (by omega)]; omega)
    have f1 : Fx (RS [6, 53]) m (uI m 31 2 (nI q)) := Fx.rf.i rfl
    have hS := SS_ring w hq
    have H1 : HC 21 (uI m 31 2 (nI q)) g := h.o (by omega)
    refine ⟨nat_in hq (by decide), 33 + 5 * q, w.ringx hq, hS.1, (e_copyF (d := d) w1 hS SS_21 (Or.inl (by omega))).to ?_⟩
    rintro _ m2 ⟨w2, f2, rfl, k1, k2, k3⟩
    have f2' : Fx (RS [6]) (uI m 31 2 (nI q)) m2 := Fx.tr Fx.rf f2 (fun a k hk => by
      unfold BR at hk
      unfold RS
      have hj := (hS.2 (a - (33 + 5 * q)) k (by omega)).1
      rw [show 33 + 5 * q + (a - (33 + 5 * q)) = a by omega] at hj
      rw [hj]
      rfl)
    have e31 : m2.1 31 1 = nI H.length := (f2.at (by unfold BR; omega)).trans ((u_ne (by omega)).trans h2)
    have e32 : m2.1 31 2 = nI q := (f2.at (by unfold BR; omega)).trans e2
    have HN : HC (33 + 5 * q) m2 g := ⟨fun k hk => (k1 k hk).trans (H1.1 k hk), fun k hk => (k2 2 k (by decide) (by decide) hk).trans (H1.2.1 k hk), fun k hk => (k2 3 k (by decide) (by decide) hk).trans (H1.2.2.1 k hk), fun k hk => (k2 4 k (by decide) (by decide) hk).trans (H1.2.2.2.1 k hk), k3.trans H1.2.2.2.2⟩
    have el : ((g :: H).take 20).length = if 20 < H.length + 1 then 20 else H.length + 1 := by
      rw [List.length_take, List.length_cons]
      split <;> omega
    have ev : (if (20 : Int32) < m2.1 31 1 + (1 : Int32) then (20 : Int32) else m2.1 31 1 + (1 : Int32)) = nI ((g :: H).take 20).length := by
      rw [e31, nI_1, el]
      by_cases c : 20 < H.length + 1
      · rw [if_pos c, if_pos ((lt_l 20 20 rfl (by decide) (by omega)).mpr c)]; rfl
      · rw [if_neg c, if_neg (fun z => c ((lt_l 20 20 rfl (by decide) (by omega)).mp z))]
    have l20 : ((g :: H).take 20).length ≤ 20 := by rw [el]; split <;> omega
    rw [ev]
    have tl : (nI ((g :: H).take 20).length).toInt = ((g :: H).take 20).length := nI_toInt (by omega)
    refine ⟨rfl, rfl, w2.t rfl (by omega) (by omega), (f1.tr f2' (RS_sub rfl)).i rfl, l20, u_eq, q, hq, (u_ne (by omega)).trans e32, fun j hj => ?_⟩
    rw [gAt_take _ _ _ (by omega)]
    cases j with
    | zero =>
      rw [show (q + 20 - 0) % 20 = q by omega]
      exact HN.o (by omega)
    | succ j =>
      have hjl : j < H.length := by rw [el] at hj; split at hj <;> omega
      have h5 := h4 j hjl
      have es : (q + 20 - (j + 1)) % 20 = (p + 20 - j) % 20 := by omega
      rw [es]
      exact (((h5.o (by omega)).br f2 (by omega)).o (by omega))
  refine v_X2_save SS_21.1 ?_
  rw [h3, nI_1]
  refine ⟨fun c => ?_, fun c => ?_⟩
  · have := (le_l 20 20 rfl (by decide) (by omega)).mp c
    exact go 0 (by decide) (by omega)
  · have : ¬ 20 ≤ p + 1 := fun z => c ((le_l 20 20 rfl (by decide) (by omega)).mpr z)
    exact go (p + 1) (by omega) (by omega)
theorem backC (w : WT m) (U : UnC m H) : Ct ad μX2_takeBack (d + 2) [.ref (ad 31), .ref (ad 21)] m (fun r m' => WT m' ∧ Fx (RS [4, 53]) m m' ∧ ((H = [] ∧ r = some (.int 0) ∧ m' = m) ∨ ∃ g H', H = g :: H' ∧ r = some (.int 1) ∧ HC 21 m' g ∧ UnC m' H')) := by
  obtain ⟨h1, h2, p, hp, h3, h4⟩ := U
  cases H with
  | nil =>
    refine v_X2_takeBack SS_21.1 ⟨fun c => absurd h2 c, fun _ => ⟨w, Fx.rf, Or.inl ⟨rfl, rfl, rfl⟩⟩⟩
  | cons g H' =>
    rw [List.length_cons] at h1 h2 h4
    have hS := SS_ring w hp
    refine v_X2_takeBack SS_21.1 ⟨fun _ => ?_, fun c => ?_⟩
    · rw [h3, nI_clamp (by omega)]
      have H0 : HC (33 + 5 * p) m g := by
        have := h4 0 (by omega)
        rw [show (p + 20 - 0) % 20 = p by omega] at this
        exact this
      refine ⟨nat_in hp (by decide), 33 + 5 * p, w.ringx hp, hS.1, (copyC (d := d) w SS_21 hS (Or.inr (by omega)) H0).to ?_⟩
      rintro _ m2 ⟨rfl, w2, f2, H2⟩
      have e32 : m2.1 31 2 = nI p := (f2.at (nRS (ρ := 53) rfl rfl)).trans h3
      have e31 : m2.1 31 1 = nI (H'.length + 1) := (f2.at (nRS (ρ := 53) rfl rfl)).trans h2
      have fin : ∀ q : Nat, q < 20 → q = (p + 19) % 20 → AW ad E0 μX2_takeBack (d + 1 + 1) (fun r m' => WT m' ∧ Fx (RS [4, 53]) m m' ∧ ((g :: H' = [] ∧ r = some (.int 0) ∧ m' = m) ∨ ∃ g1 H1, g :: H' = g1 :: H1 ∧ r = some (.int 1) ∧ HC 21 m' g1 ∧ UnC m' H1)) 41 [(0, .ref (ad 31))] [.int (nI q), .ref (ad 31)] m2 := by
        intro q hq hqp
        refine g_X2_takeBack_41 ?_
        have e1 : (uI m2 31 2 (nI q)).1 31 1 = nI (H'.length + 1) := (u_ne (by omega)).trans e31
        have eb : nI (H'.length + 1) - (1 : Int32) = nI H'.length := nI_sb (a := H'.length + 1) (b := 1) (by omega) (by omega)
        rw [e1, eb]
        have tq : (nI q).toInt = q := nI_toInt (by omega)
        have tl : (nI H'.length).toInt = H'.length := nI_toInt (by omega)
        refine ⟨(w2.t rfl (by omega) (by omega)).t rfl (by omega) (by omega), ((Fx.tr (S := RS [4, 53]) Fx.rf f2 (RS_sub rfl)).i rfl).i rfl, Or.inr ⟨g, H', rfl, rfl, (H2.o (by omega)).o (by omega), by omega, u_eq, q, hq, (u_ne (by omega)).trans u_eq, fun j hj => ?_⟩⟩
        have h5 := h4 (j + 1) (by omega)
        have es : (q + 20 - j) % 20 = (p + 20 - (j + 1)) % 20 := by omega
        rw [es]
        exact (((h5.fx (SS_ring w (by omega)) f2 rfl).o (by omega)).o (by omega))
      refine ⟨rfl, fun c => ?_, fun c => ?_⟩
      · rw [e32] at c
        have := (l_le 0 0 rfl (by decide) (by omega)).mp c
        exact fin 19 (by decide) (by omega)
      · rw [e32] at c
        have hp0 : ¬ p ≤ 0 := fun z => c ((l_le 0 0 rfl (by decide) (by omega)).mpr z)
        have eb : nI p - (1 : Int32) = nI (p - 1) := nI_sb (a := p) (b := 1) (by omega) (by omega)
        rw [e32, eb]
        exact fin (p - 1) (by omega) (by omega)
    · rw [h2] at c
      have := (nI_eq (a := H'.length + 1) (b := 0) (by omega) (by omega)).mp c
      omega
end UND
/-! THE MODEL'S LEAGUE LAID INTO A ROW AND BROUGHT BACK; WHAT CAN BE UNDONE THERE -/
section LAH
variable {ad : Nat → Nat} {d n a na reg x : Nat} {m m' m0 : Wm} {g : GS} {v : EV} {S : List Nat} {H : List GS}
theorem layM_in {n : Nat} {k : Nat} (hk : k < n) : (layM m a x n).1 a (x + k) = layV m k := by
  show (if a = a ∧ x ≤ x + k ∧ x + k < x + n then layV m (x + k - x) else m.1 a (x + k)) = _
  rw [if_pos ⟨rfl, by omega, by omega⟩, Nat.add_sub_cancel_left]
theorem layM_ot {n k : Nat} (hk : ¬ (x ≤ k ∧ k < x + n)) : (layM m a x n).1 a k = m.1 a k := if_neg (fun q => hk q.2)
theorem lay_HL (h : HM n m g) (h8 : n ≤ 8) : HL n a x (layM m a x 57) g := by
  obtain ⟨h1, h2, h3, h4, h5⟩ := h
  have e : ∀ k r, k < 8 → r < 3 → (layM m a x 57).1 a (x + 32 + 3 * k + r) = if r = 0 then m.1 190 k else if r = 1 then m.1 191 k else m.1 192 k := fun k r hk hr => by
    have := layM_in (m := m) (a := a) (x := x) (n := 57) (k := 32 + 3 * k + r) (by omega)
    rw [show x + (32 + 3 * k + r) = x + 32 + 3 * k + r by omega] at this
    rw [this, layV_b hk hr]
  refine ⟨h8, fun k hk => ?_, fun k hk => ?_, fun k hk => ?_, fun k hk => ?_, ?_⟩
  · rw [layM_in (by omega), layV_a (by omega)]; exact h1 k hk
  · have := e k 0 (by omega) (by decide); exact this.trans (h2 k hk)
  · have := e k 1 (by omega) (by decide); exact this.trans (h3 k hk)
  · have := e k 2 (by omega) (by decide); exact this.trans (h4 k hk)
  · rw [layM_in (by omega)]
    exact h5
theorem layH (ha : LAY[a]? = some (.inr (0, na))) (hn : ∀ b ∈ [187, 188, 190, 191, 192], b ≠ a) (hb : na < 100000) (hty : ∀ k, TY a k = none) (hrg : ∀ k, RS [reg] a k) (w : WT m) (h : HM n m g) (h8 : n ≤ 8) (hx : x + 57 ≤ na) :
    Ct ad μX12_lay d [.ref (ad 187), .ref (ad a), .int (nI x)] m (fun r m' => r = none ∧ WT m' ∧ Fx (RS [reg]) m m' ∧ HL n a x m' g ∧ (∀ k, ¬ (x ≤ k ∧ k < x + 57) → m'.1 a k = m.1 a k) ∧ ∀ b k, b ≠ a → m'.1 b k = m.1 b k) := by
  refine (layC ha hn hx hb).to ?_
  rintro _ m' ⟨rfl, e⟩
  obtain rfl := e
  exact ⟨rfl, w.same (fun b k h => layM_at (fun q => h (by rw [q]; exact hty k))) rfl, fun b k h => ⟨layM_at (fun q => h (by rw [q]; exact hrg k)), rfl, rfl⟩, lay_HL h h8, fun k hk => layM_ot hk, fun b k hb => layM_at hb⟩
theorem tgA_a {k : Nat} (h : k < 32) : tgt k = (188, k) := if_pos h
theorem tgA_b {k r : Nat} (h : k < 8) (hr : r < 3) : tgt (32 + 3 * k + r) = (190 + r, k) := by
  unfold tgt
  rw [if_neg (by omega), if_pos (by omega), show (32 + 3 * k + r - 32) % 3 = r by omega, show (32 + 3 * k + r - 32) / 3 = k by omega]
theorem bringH (ha : LAY[a]? = some (.inr (0, na))) (hn : ∀ b ∈ [187, 188, 190, 191, 192], b ≠ a) (hb : na < 100000) (w : WT m) (h : HL n a x m g) (hx : x + 57 ≤ na) :
    Ct ad μX12_bring d [.ref (ad 187), .ref (ad a), .int (nI x)] m (fun r m' => r = none ∧ WT m' ∧ Fx (RS [24, 49]) m m' ∧ HM n m' g) := by
  refine (bringC ha hn hx hb).to ?_
  rintro _ m' ⟨rfl, e⟩
  obtain rfl := e
  obtain ⟨h8, h1, h2, h3, h4, h5⟩ := h
  have B : ∀ k, k < 57 → (brM m a x 57).1 (tgt k).1 (tgt k).2 = m.1 a (x + k) := fun k hk => brM_at hk (Nat.le_refl _)
  refine ⟨rfl, w.same (fun b k h => brM_out (fun i q => h ?_) (Nat.le_refl _)) (congrArg Prod.snd (brM_2 57)), fun b k h => ⟨brM_out (fun i q => h ?_) (Nat.le_refl _), ?_, ?_⟩, fun k hk => ?_, fun k hk => ?_, fun k hk => ?_, fun k hk => ?_, ?_⟩
  · have := (tgt_rg i).1; rw [q] at this; exact this
  · have := (tgt_rg i).2; rw [q] at this; exact this
  · rw [brM_2 57]
  · rw [brM_2 57]
  · have := B k (by omega)
    rw [tgA_a (by omega)] at this
    exact this.trans (h1 k hk)
  · have := B (32 + 3 * k + 0) (by omega)
    rw [tgA_b (by omega) (by decide), show x + (32 + 3 * k + 0) = x + 32 + 3 * k by omega] at this
    exact this.trans (h2 k hk)
  · have := B (32 + 3 * k + 1) (by omega)
    rw [tgA_b (by omega) (by decide), show x + (32 + 3 * k + 1) = x + 32 + 3 * k + 1 by omega] at this
    exact this.trans (h3 k hk)
  · have := B (32 + 3 * k + 2) (by omega)
    rw [tgA_b (by omega) (by decide), show x + (32 + 3 * k + 2) = x + 32 + 3 * k + 2 by omega] at this
    exact this.trans (h4 k hk)
  · exact (B 56 (by decide)).trans h5
theorem gAt_t {j : Nat} {L : List GS} {g : GS} : gAt (g :: L) (j + 1) = gAt L j := rfl
set_option maxHeartbeats 1000000 in
theorem rememberM (w : WT m) (h : HM n m g) (h8 : n ≤ 8) (U : UnM n m H) (hl : H.length ≤ 20) : Ct ad μX12_remember (d + 1) [.ref (ad 187)] m (fun r m' => r = none ∧ WT m' ∧ Fx (RS [29]) m m' ∧ UnM n m' ((g :: H).take 20)) := by
  obtain ⟨h1, h2⟩ := U
  have el : ((g :: H).take 20).length = if 20 < H.length + 1 then 20 else H.length + 1 := by
    rw [List.length_take, List.length_cons]
    split <;> omega
  -- behind what was moved: entry j of H (those with j < L) stands at L - 1 - j
  have fin : ∀ (L : Nat) (m1 : Wm), L < 20 → ((g :: H).take 20).length = L + 1 → L ≤ H.length → WT m1 → Fx (RS [29]) m m1 → m1.1 187 30 = nI L → (∀ j, j < L → HL n 201 (57 * (L - 1 - j)) m1 (gAt H j)) → AW ad E0 μX12_remember (d + 1) (fun r m' => r = none ∧ WT m' ∧ Fx (RS [29]) m m' ∧ UnM n m' ((g :: H).take 20)) 49 [(0, .ref (ad 187))] [] m1 := by
    intro L m1 hL hlen hLH w1 f1 h30 hE
    have H1 := h.fx f1 rfl rfl
    refine g_X12_remember_49 ?_
    rw [h30, l_mul 57 57 rfl]
    refine (layH (na := 1140) (reg := 29) rfl (by decide) (by decide) (fun _ => rfl) (fun _ => rfl) w1 H1 h8 (by omega)).to ?_
    rintro _ m2 ⟨rfl, w2, f2, hL2, hO, hB⟩
    have e30 : m2.1 187 30 = nI L := (hB 187 30 (by decide)).trans h30
    have tL : (nI (L + 1)).toInt = ((L + 1 : Nat) : Int) := nI_toInt (by omega)
    rw [e30, nI_1]
    refine ⟨rfl, rfl, w2.t rfl (by omega) (by omega), (f1.tr f2 (fun _ _ h => h)).i rfl, ?_, fun j hj => ?_⟩
    · rw [hlen]; exact u_eq
    · rw [hlen] at hj ⊢
      rw [gAt_take _ _ _ (by omega)]
      cases j with
      | zero =>
        rw [show 57 * (L + 1 - 1 - 0) = 57 * L by omega]
        exact hL2.k (fun k _ _ => u_ne (by omega))
      | succ j =>
        rw [gAt_t, show 57 * (L + 1 - 1 - (j + 1)) = 57 * (L - 1 - j) by omega]
        exact ((hE j (by omega)).k (fun k h1 h2 => hO k (by omega))).k (fun k _ _ => u_ne (by omega))
  refine v_X12_remember ⟨fun c => ?_, fun c => ?_⟩
  · have hn : ¬ H.length = 20 := fun z => c (by rw [h1, z]; rfl)
    exact fin H.length m (by omega) (by rw [el, if_neg (by omega)]) (Nat.le_refl _) w Fx.rf h1 (fun j hj => h2 j hj)
  · have hn : H.length = 20 := (nI_eq (a := H.length) (b := 20) (by omega) (by decide)).mp (h1.symm.trans c)
    rw [hn] at h1 h2
    have L : ∀ (q k : Nat) (m1 : Wm), k + q = 1083 → WT m1 → Fx (RS [29]) m m1 → m1.1 187 30 = nI 20 → (∀ j, j < k → m1.1 201 j = m.1 201 (j + 57)) → (∀ j, k ≤ j → m1.1 201 j = m.1 201 j) → AW ad E0 μX12_remember (d + 1) (fun r m' => r = none ∧ WT m' ∧ Fx (RS [29]) m m' ∧ UnM n m' ((g :: H).take 20)) 11 [(0, .ref (ad 187)), (1, .int (nI k))] [] m1 := by
      intro q
      induction q with
      | zero =>
        intro k m1 hk w1 f1 h30 a b
        obtain rfl : k = 1083 := hk
        refine g_X12_remember_11 ⟨fun _ => ?_, fun z => absurd (by decide) z⟩
        have e : m1.1 187 30 - (1 : Int32) = nI 19 := by rw [h30]; rfl
        rw [e]
        refine fin 19 _ (by decide) (by rw [el, if_pos (by omega)]) (by omega) (w1.t rfl (by decide) (by decide)) (f1.i rfl) u_eq (fun j hj => ?_)
        refine ((h2 j (by omega)).mv (y := 57 * (19 - 1 - j)) (m' := m1) (fun k hk => ?_)).k (fun k _ _ => u_ne (by omega))
        rw [a (57 * (19 - 1 - j) + k) (by omega)]
        exact congrArg (m.1 201) (by omega)
      | succ q ih =>
        intro k m1 hk w1 f1 h30 a b
        refine g_X12_remember_11 ⟨fun z => absurd ((le_l 1083 1083 rfl (by decide) (by omega)).mp z) (by omega), fun _ => ?_⟩
        rw [add_l 57 57 rfl, nI_1, nI_clamp (by omega), nI_clamp (by omega), b (k + 57) (by omega)]
        refine ⟨nat_in (by omega) (by decide), nat_in (by omega) (by decide), ih (k + 1) _ (by omega) (w1.n rfl) (f1.i rfl) ((u_ne (by omega)).trans h30) (fun j hj => ?_) (fun j hj => (u_ne (by omega)).trans (b j (by omega)))⟩
        by_cases qq : j = k
        · rw [qq]; exact u_eq
        · exact (u_ne (fun z => qq z.2)).trans (a j (by omega))
    exact L 1083 0 m (by decide) w Fx.rf h1 (fun j hj => absurd hj (Nat.not_lt_zero j)) (fun j _ => rfl)
theorem undoM (w : WT m) (h : HM n m g) (h8 : n ≤ 8) (U : UnM n m H) (hl : H.length ≤ 20) : Ct ad μX12_undo (d + 1) [.ref (ad 187)] m (fun r m' => WT m' ∧ Fx (RS [20, 24, 29, 49]) m m' ∧ ((H = [] ∧ r = some (.int (-1)) ∧ HM n m' g ∧ UnM n m' H) ∨ ∃ g' H', H = g' :: H' ∧ r = some (.int (nI H'.length)) ∧ HM n m' g' ∧ UnM n m' H')) := by
  obtain ⟨h1, h2⟩ := U
  have w0 : WT (uI m 187 17 0) := w.n rfl
  have f0 : Fx (RS [20, 24, 29, 49]) m (uI m 187 17 0) := Fx.rf.i rfl
  have e0 : (uI m 187 17 0).1 187 30 = nI H.length := h1
  refine v_X12_undo ?_
  rw [e0]
  cases H with
  | nil =>
    refine ⟨fun c => absurd rfl c, fun _ => ⟨w0, f0, Or.inl ⟨rfl, rfl, h, ?_⟩⟩⟩
    exact ⟨h1, fun j hj => absurd hj (Nat.not_lt_zero j)⟩
  | cons g' H' =>
    rw [List.length_cons] at hl h2 ⊢
    have eb : nI (H'.length + 1) - (1 : Int32) = nI H'.length := nI_sb (a := H'.length + 1) (b := 1) (by omega) (by omega)
    rw [eb]
    have e1 : (uI (uI m 187 17 0) 187 30 (nI H'.length)).1 187 30 = nI H'.length := u_eq
    rw [e1, l_mul 57 57 rfl]
    have tL : (nI H'.length).toInt = ((H'.length : Nat) : Int) := nI_toInt (by omega)
    have w1 : WT (uI (uI m 187 17 0) 187 30 (nI H'.length)) := w0.t rfl (by omega) (by omega)
    have f1 : Fx (RS [20, 24, 29, 49]) m (uI (uI m 187 17 0) 187 30 (nI H'.length)) := f0.i rfl
    have hE : ∀ j, j < H'.length + 1 → HL n 201 (57 * (H'.length - j)) (uI (uI m 187 17 0) 187 30 (nI H'.length)) (gAt (g' :: H') j) := fun j hj => by
      have := h2 j hj
      rw [show H'.length + 1 - 1 - j = H'.length - j by omega] at this
      exact this.k (fun k _ _ => (u_ne (by omega)).trans (u_ne (by omega)))
    have hE0 := hE 0 (by omega)
    rw [Nat.sub_zero] at hE0
    refine ⟨fun _ => (bringH (na := 1140) rfl (by decide) (by decide) w1 hE0 (by omega)).to ?_, fun c => ?_⟩
    · rintro _ m2 ⟨rfl, w2, f2, H2⟩
      have k30 : m2.1 187 30 = nI H'.length := (f2.at (nRS (ρ := 29) rfl rfl)).trans e1
      rw [k30]
      refine ⟨rfl, w2, f1.tr f2 (RS_sub rfl), Or.inr ⟨g', H', rfl, rfl, H2, k30, fun j hj => ?_⟩⟩
      have := (hE (j + 1) (by omega)).fx f2 (fun _ => rfl) rfl
      rw [show H'.length - (j + 1) = H'.length - 1 - j by omega] at this
      exact this
    · have := (nI_eq (a := H'.length + 1) (b := 0) (by omega) (by omega)).mp c
      omega
end LAH
end
