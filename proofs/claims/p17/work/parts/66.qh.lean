/-! WHAT IS KEPT: THE MODEL -/
section KPM
variable {ad : Nat → Nat} {d : Nat} {m : Wm}
def kpM (m : Wm) (i : Nat) (m' : Wm) : Prop := WT m' ∧ Fx (RS [20, 40]) m m' ∧ m'.1 215 i = 1 ∧ m'.1 216 i = m.1 187 53 ∧ (∀ j, j ≠ i → m'.1 215 j = m.1 215 j ∧ m'.1 216 j = m.1 216 j) ∧ (∀ k, k < 57 → m'.1 214 (71 * i + k) = layV m k) ∧ (∀ s, s < 8 → m'.1 214 (71 * i + 57 + s) = if m.1 189 s = 0 then 0 else 1) ∧ (∀ k, k < 5 → m'.1 214 (71 * i + 65 + k) = m.1 193 k) ∧ m'.1 214 (71 * i + 70) = m.1 187 12 ∧ ∀ k, k < 71 * i ∨ 71 * i + 71 ≤ k → m'.1 214 k = m.1 214 k
theorem layV_at {m m' : Wm} (h : ∀ b, b = 188 ∨ b = 190 ∨ b = 191 ∨ b = 192 → ∀ k, m'.1 b k = m.1 b k) (h8 : m'.1 187 8 = m.1 187 8) (k : Nat) : layV m' k = layV m k := by
  unfold layV
  rw [h 188 (Or.inl rfl), h 190 (Or.inr (Or.inl rfl)), h 191 (Or.inr (Or.inr (Or.inl rfl))), h 192 (Or.inr (Or.inr (Or.inr rfl))), h8]
theorem e_keepM {x : Int32} (w : WT m) : Ct ad μX12_keep (d + 2) [.ref (ad 187), .int x] m (fun r m' => (∃ i, i < 2 ∧ x = nI i ∧ r = some (.int 1) ∧ kpM m i m') ∨ (¬ (0 ≤ x.toInt ∧ x.toInt < 2) ∧ r = some (.int 0) ∧ WT m' ∧ Fx (RS [20]) m m')) := by
  have w0 : WT (uI m 187 17 0) := w.n rfl
  have z0 : (0 : Int32).toInt = 0 := rfl
  have z1 : (1 : Int32).toInt = 1 := rfl
  refine v_X12_keep (d := d + 1) ((in_i (lo := 0) (hi := 1) rfl rfl).to ?_)
  rintro _ m' ⟨eq, rfl⟩
  obtain rfl := eq.symm
  by_cases hc : (0 : Int32) ≤ x ∧ x ≤ 1
  · have h0 := z_le hc.1
    have h1 := z_le hc.2
    obtain ⟨i, hi, rfl⟩ := two_of (x := x) (by omega) (by omega)
    refine ⟨1, by rw [if_pos hc], fun _ => ?_, fun z => absurd z (by decide)⟩
    have e71 : (71 : Int32) * nI i = nI (71 * i) := l_mul 71 71 rfl i
    have eb : vp_nar .boolean (1 : Int32) = 1 := rfl
    rw [nI_clamp (by omega), e71, eb, add_l 57 57 rfl]
    have w2 : WT (uI (uI (uI m 187 17 0) 215 i 1) 216 i ((uI (uI m 187 17 0) 215 i 1).1 187 53)) := (w0.n rfl).n rfl
    have f2 : Fx (RS [20, 40]) m (uI (uI (uI m 187 17 0) 215 i 1) 216 i ((uI (uI m 187 17 0) 215 i 1).1 187 53)) := (((Fx.rf (S := RS [20, 40])).i rfl).i rfl).i rfl
    have a1 : (uI (uI (uI m 187 17 0) 215 i 1) 216 i ((uI (uI m 187 17 0) 215 i 1).1 187 53)).1 215 i = 1 := (u_ne (by omega)).trans u_eq
    have a2 : (uI (uI (uI m 187 17 0) 215 i 1) 216 i ((uI (uI m 187 17 0) 215 i 1).1 187 53)).1 216 i = m.1 187 53 := u_eq
    have a3 : ∀ j, j ≠ i → (uI (uI (uI m 187 17 0) 215 i 1) 216 i ((uI (uI m 187 17 0) 215 i 1).1 187 53)).1 215 j = m.1 215 j ∧ (uI (uI (uI m 187 17 0) 215 i 1) 216 i ((uI (uI m 187 17 0) 215 i 1).1 187 53)).1 216 j = m.1 216 j := fun j hj => ⟨(u_ne (by omega)).trans ((u_ne (fun q => hj q.2)).trans (u_ne (by omega))), (u_ne (fun q => hj q.2)).trans ((u_ne (by omega)).trans (u_ne (by omega)))⟩
    have a4 : ∀ b, b = 188 ∨ b = 189 ∨ b = 190 ∨ b = 191 ∨ b = 192 ∨ b = 193 ∨ b = 214 → ∀ k, (uI (uI (uI m 187 17 0) 215 i 1) 216 i ((uI (uI m 187 17 0) 215 i 1).1 187 53)).1 b k = m.1 b k := fun b hb k => (u_ne (by omega)).trans ((u_ne (by omega)).trans (u_ne (by omega)))
    have a5 : ∀ k, k ≠ 17 → (uI (uI (uI m 187 17 0) 215 i 1) 216 i ((uI (uI m 187 17 0) 215 i 1).1 187 53)).1 187 k = m.1 187 k := fun k hk => (u_ne (by omega)).trans ((u_ne (by omega)).trans (u_ne (fun q => hk q.2)))
    generalize uI (uI (uI m 187 17 0) 215 i 1) 216 i ((uI (uI m 187 17 0) 215 i 1).1 187 53) = m2 at w2 f2 a1 a2 a3 a4 a5 ⊢
    refine ⟨nat_in hi (by decide), nat_in hi (by decide), (layC (na := 142) rfl (by decide) (by omega) (by decide)).to ?_⟩
    rintro _ m3 ⟨rfl, e3⟩
    have w3 : WT m3 := by subst e3; exact w2.same (fun b k h => layM_at (fun q => h (by rw [q]; rfl))) rfl
    have f3 : Fx (RS [20, 40]) m m3 := by
      subst e3
      exact f2.tr (S' := RS [40]) (fun b k h => ⟨layM_at (fun q => h (by rw [q]; rfl)), rfl, rfl⟩) (RS_sub rfl)
    have b1 : ∀ b k, b ≠ 214 → m3.1 b k = m2.1 b k := fun b k hb => by subst e3; exact layM_at hb
    have b2 : ∀ k, m3.1 214 k = if 71 * i ≤ k ∧ k < 71 * i + 57 then layV m2 (k - 71 * i) else m2.1 214 k := fun k => by
      subst e3
      show (if 214 = 214 ∧ 71 * i ≤ k ∧ k < 71 * i + 57 then layV m2 (k - 71 * i) else m2.1 214 k) = _
      by_cases hk : 71 * i ≤ k ∧ k < 71 * i + 57
      · rw [if_pos ⟨rfl, hk⟩, if_pos hk]
      · rw [if_neg (fun q => hk q.2), if_neg hk]
    have lV : ∀ k, layV m2 k = layV m k := layV_at (fun b hb k => a4 b (by omega) k) (a5 8 (by decide))
    refine ⟨rfl, ?_⟩
    have L92 : ∀ (j k : Nat) (m4 : Wm), k + j = 5 → WT m4 → Fx (RS [20, 40]) m m4 → (∀ b k, b ≠ 214 → m4.1 b k = m2.1 b k) → (∀ k, k < 57 → m4.1 214 (71 * i + k) = layV m k) → (∀ s, s < 8 → m4.1 214 (71 * i + 57 + s) = if m.1 189 s = 0 then 0 else 1) → (∀ q, q < k → m4.1 214 (71 * i + 65 + q) = m.1 193 q) → (∀ k, k < 71 * i ∨ 71 * i + 71 ≤ k → m4.1 214 k = m.1 214 k) →
        AW ad E0 μX12_keep (d + 2) (fun r m' => (∃ i', i' < 2 ∧ nI i = nI i' ∧ r = some (.int 1) ∧ kpM m i' m') ∨ (¬ (0 ≤ (nI i).toInt ∧ (nI i).toInt < 2) ∧ r = some (.int 0) ∧ WT m' ∧ Fx (RS [20]) m m')) 92 [(0, .ref (ad 187)), (2, .int (nI (71 * i + 57 + 8))), (3, .int (nI k))] [] m4 := by
      intro j
      induction j with
      | zero =>
        intro k m4 hk w4 f4 c1 c2 c3 c4 c5
        obtain rfl : k = 5 := hk
        refine g_X12_keep_92 ?_
        rw [add_l 5 5 rfl, nI_clamp (by omega)]
        have ek : 71 * i + 57 + 8 + 5 = 71 * i + 70 := by omega
        refine ⟨fun _ => ⟨nat_in (by omega) (by decide), Or.inl ⟨i, hi, rfl, rfl, w4.n rfl, f4.i rfl, (u_ne (by omega)).trans ((c1 215 i (by decide)).trans a1), (u_ne (by omega)).trans ((c1 216 i (by decide)).trans a2), fun j hj => ⟨(u_ne (by omega)).trans ((c1 215 j (by decide)).trans (a3 j hj).1), (u_ne (by omega)).trans ((c1 216 j (by decide)).trans (a3 j hj).2)⟩, fun k hk => (u_ne (by omega)).trans (c2 k hk), fun s hs => (u_ne (by omega)).trans (c3 s hs), fun k hk => (u_ne (by omega)).trans (c4 k hk), ?_, fun k hk => (u_ne (by omega)).trans (c5 k hk)⟩⟩, fun z => absurd (by decide) z⟩
        rw [ek]
        exact u_eq.trans ((c1 187 12 (by decide)).trans (a5 12 (by decide)))
      | succ j ih =>
        intro k m4 hk w4 f4 c1 c2 c3 c4 c5
        refine g_X12_keep_92 ?_
        rw [nI_add, nI_1, nI_clamp (by omega), nI_clamp (by omega)]
        refine ⟨fun z => absurd ((le_l 5 5 rfl (by decide) (by omega)).mp z) (by omega), fun _ => ⟨nat_in (by omega) (by decide), nat_in (by omega) (by decide), ih (k + 1) _ (by omega) (w4.n rfl) (f4.i rfl) (fun b q hb => (u_ne (fun z => hb z.1)).trans (c1 b q hb)) (fun q hq => (u_ne (by omega)).trans (c2 q hq)) (fun s hs => (u_ne (by omega)).trans (c3 s hs)) (fun q hq => ?_) (fun q hq => (u_ne (by omega)).trans (c5 q hq))⟩⟩
        by_cases hqk : q = k
        · subst hqk
          have e : 71 * i + 65 + q = 71 * i + 57 + 8 + q := by omega
          rw [e]
          exact u_eq.trans ((c1 193 q (by decide)).trans (a4 193 (by decide) q))
        · exact (u_ne (by omega)).trans (c4 q (by omega))
    have L53 : ∀ (j s : Nat) (m4 : Wm), s + j = 8 → WT m4 → Fx (RS [20, 40]) m m4 → (∀ b k, b ≠ 214 → m4.1 b k = m2.1 b k) → (∀ k, k < 57 → m4.1 214 (71 * i + k) = layV m k) → (∀ q, q < s → m4.1 214 (71 * i + 57 + q) = if m.1 189 q = 0 then 0 else 1) → (∀ k, k < 71 * i ∨ 71 * i + 71 ≤ k → m4.1 214 k = m.1 214 k) →
        AW ad E0 μX12_keep (d + 2) (fun r m' => (∃ i', i' < 2 ∧ nI i = nI i' ∧ r = some (.int 1) ∧ kpM m i' m') ∨ (¬ (0 ≤ (nI i).toInt ∧ (nI i).toInt < 2) ∧ r = some (.int 0) ∧ WT m' ∧ Fx (RS [20]) m m')) 53 [(0, .ref (ad 187)), (2, .int (nI (71 * i + 57))), (3, .int (nI s))] [] m4 := by
      intro j
      induction j with
      | zero =>
        intro s m4 hs w4 f4 c1 c2 c3 c5
        obtain rfl : s = 8 := hs
        refine g_X12_keep_53 ?_
        rw [add_l 8 8 rfl]
        exact ⟨fun _ => L92 5 0 m4 rfl w4 f4 c1 c2 c3 (fun q hq => absurd hq (Nat.not_lt_zero q)) c5, fun z => absurd (by decide) z⟩
      | succ j ih =>
        intro s m4 hs w4 f4 c1 c2 c3 c5
        refine g_X12_keep_53 ?_
        rw [nI_add, nI_1, nI_clamp (by omega), nI_clamp (by omega), c1 189 s (by decide), a4 189 (by decide) s]
        have nx : ∀ v : Int32, (v = if m.1 189 s = 0 then 0 else 1) → AW ad E0 μX12_keep (d + 2) (fun r m' => (∃ i', i' < 2 ∧ nI i = nI i' ∧ r = some (.int 1) ∧ kpM m i' m') ∨ (¬ (0 ≤ (nI i).toInt ∧ (nI i).toInt < 2) ∧ r = some (.int 0) ∧ WT m' ∧ Fx (RS [20]) m m')) 53 [(0, .ref (ad 187)), (2, .int (nI (71 * i + 57))), (3, .int (nI (s + 1)))] [] (uI m4 214 (71 * i + 57 + s) v) := fun v hv =>
          ih (s + 1) _ (by omega) (w4.n rfl) (f4.i rfl) (fun b q hb => (u_ne (fun z => hb z.1)).trans (c1 b q hb)) (fun q hq => (u_ne (by omega)).trans (c2 q hq)) (fun q hq => by
            by_cases hqs : q = s
            · rw [hqs, ← hv]; exact u_eq
            · exact (u_ne (by omega)).trans (c3 q (by omega))) (fun q hq => (u_ne (by omega)).trans (c5 q hq))
        exact ⟨fun z => absurd ((le_l 8 8 rfl (by decide) (by omega)).mp z) (by omega), fun _ => ⟨nat_in (by omega) (by decide), fun hz => ⟨nat_in (by omega) (by decide), nx 0 (by rw [if_pos hz])⟩, fun hz => ⟨nat_in (by omega) (by decide), nx 1 (by rw [if_neg hz])⟩⟩⟩
    exact L53 8 0 m3 rfl w3 f3 b1 (fun k hk => by rw [b2, if_pos (by omega), Nat.add_sub_cancel_left]; exact lV k) (fun q hq => absurd hq (Nat.not_lt_zero q)) (fun k hk => by rw [b2, if_neg (by omega)]; exact a4 214 (by decide) k)
  · refine ⟨0, by rw [if_neg hc], fun z => absurd rfl z, fun _ => Or.inr ⟨fun q => hc ⟨(fa_le _ _).mpr (by omega), (fa_le _ _).mpr (by omega)⟩, rfl, w0, Fx.rf.i rfl⟩⟩
def agM (m : Wm) (i : Nat) (m' : Wm) : Prop := WT m' ∧ Fx (RS [20, 24, 29, 46, 47, 49, 52]) m m' ∧ (∀ k, k < 57 → m'.1 (tgt k).1 (tgt k).2 = m.1 214 (71 * i + k)) ∧ (∀ s, s < 8 → m'.1 189 s = if m.1 214 (71 * i + 57 + s) = 1 then 1 else 0) ∧ (∀ k, k < 5 → m'.1 193 k = m.1 214 (71 * i + 65 + k)) ∧ m'.1 187 30 = 0 ∧
  m'.1 187 12 = if m.1 187 11 = 0 then 0 else m.1 214 (71 * i + 70) - m.1 214 (71 * i + 70) / m.1 187 11 * m.1 187 11
theorem e_againM {x : Int32} (w : WT m) : Ct ad μX12_again (d + 2) [.ref (ad 187), .int x] m (fun r m' => (∃ i, i < 2 ∧ x = nI i ∧ (m.1 215 i ≠ 0 ∧ m.1 216 i = m.1 187 53) ∧ r = some (.int 1) ∧ agM m i m') ∨ ((∀ i, i < 2 → x = nI i → ¬ (m.1 215 i ≠ 0 ∧ m.1 216 i = m.1 187 53)) ∧ r = some (.int 0) ∧ WT m' ∧ Fx (RS [20]) m m')) := by
  have w0 : WT (uI m 187 17 0) := w.n rfl
  have z0 : (0 : Int32).toInt = 0 := rfl
  have z1 : (1 : Int32).toInt = 1 := rfl
  have no : (∀ i, i < 2 → x = nI i → ¬ (m.1 215 i ≠ 0 ∧ m.1 216 i = m.1 187 53)) → (∃ i, i < 2 ∧ x = nI i ∧ (m.1 215 i ≠ 0 ∧ m.1 216 i = m.1 187 53) ∧ some (Value.int 0) = some (.int 1) ∧ agM m i (uI m 187 17 0)) ∨ ((∀ i, i < 2 → x = nI i → ¬ (m.1 215 i ≠ 0 ∧ m.1 216 i = m.1 187 53)) ∧ some (Value.int 0) = some (.int 0) ∧ WT (uI m 187 17 0) ∧ Fx (RS [20]) m (uI m 187 17 0)) := fun h => Or.inr ⟨h, rfl, w0, Fx.rf.i rfl⟩
  refine v_X12_again (d := d + 1) ((in_i (lo := 0) (hi := 1) rfl rfl).to ?_)
  rintro _ m' ⟨eq, rfl⟩
  obtain rfl := eq.symm
  by_cases hc : (0 : Int32) ≤ x ∧ x ≤ 1
  · have h0 := z_le hc.1
    have h1 := z_le hc.2
    obtain ⟨i, hi, rfl⟩ := two_of (x := x) (by omega) (by omega)
    have ii : ∀ i', i' < 2 → nI i = nI i' → i' = i := fun i' h1 h2 => ((nI_eq (a := i) (b := i') (by omega) (by omega)).mp h2).symm
    have e71 : (71 : Int32) * nI i = nI (71 * i) := l_mul 71 71 rfl i
    refine ⟨1, by rw [if_pos hc], fun z => absurd z (by decide), fun _ => ?_⟩
    rw [nI_clamp (by omega), e71, add_l 57 57 rfl]
    refine ⟨nat_in hi (by decide), fun hz => no (fun i' a b => ?_), fun hz => ⟨nat_in hi (by decide), fun ht => ?_, fun ht => no (fun i' a b => ?_)⟩⟩
    · rw [ii i' a b]; exact fun q => q.1 hz
    · refine (bringC (na := 142) rfl (by decide) (by omega) (by decide)).to ?_
      rintro _ m3 ⟨rfl, e3⟩
      refine ⟨rfl, ?_⟩
      have w3 : WT m3 := by
        subst e3
        exact w0.same (fun b k h => brM_out (fun j q => h (by have := (tgt_rg j).1; rw [q] at this; exact this)) (Nat.le_refl _)) (congrArg Prod.snd (brM_2 57))
      have f3 : Fx (RS [20, 24, 29, 46, 47, 49, 52]) m m3 := by
        subst e3
        refine ((Fx.rf (S := RS [20, 24, 29, 46, 47, 49, 52])).i (a := 187) (k := 17) (v := 0) rfl).tr (S' := RS [24, 49]) (fun b k h => ⟨brM_out (fun j q => h (by have := (tgt_rg j).2; rw [q] at this; exact this)) (Nat.le_refl _), by rw [brM_2 57], by rw [brM_2 57]⟩) (RS_sub rfl)
      have b1 : ∀ k, k < 57 → m3.1 (tgt k).1 (tgt k).2 = m.1 214 (71 * i + k) := fun k hk => by
        subst e3
        exact (brM_at hk (Nat.le_refl _)).trans (u_ne (by omega))
      have b2 : ∀ k, m3.1 214 k = m.1 214 k := fun k => f3.at (nRS (ρ := 40) rfl rfl)
      have b3 : m3.1 187 11 = m.1 187 11 := f3.at (nRS (ρ := 25) rfl rfl)
      have L98 : ∀ (j k : Nat) (m4 : Wm), k + j = 5 → WT m4 → Fx (RS [20, 24, 29, 46, 47, 49, 52]) m m4 → (∀ k, k < 57 → m4.1 (tgt k).1 (tgt k).2 = m.1 214 (71 * i + k)) → (∀ s, s < 8 → m4.1 189 s = if m.1 214 (71 * i + 57 + s) = 1 then 1 else 0) → (∀ q, q < k → m4.1 193 q = m.1 214 (71 * i + 65 + q)) →
          AW ad E0 μX12_again (d + 2) (fun r m' => (∃ i', i' < 2 ∧ nI i = nI i' ∧ (m.1 215 i' ≠ 0 ∧ m.1 216 i' = m.1 187 53) ∧ r = some (.int 1) ∧ agM m i' m') ∨ ((∀ i', i' < 2 → nI i = nI i' → ¬ (m.1 215 i' ≠ 0 ∧ m.1 216 i' = m.1 187 53)) ∧ r = some (.int 0) ∧ WT m' ∧ Fx (RS [20]) m m')) 98 [(0, .ref (ad 187)), (2, .int (nI (71 * i + 57 + 8))), (3, .int (nI k))] [] m4 := by
        intro j
        have tg : ∀ k, k < 57 → (tgt k).1 ≠ 193 ∧ (tgt k).1 ≠ 189 ∧ ¬ ((tgt k).1 = 187 ∧ ((tgt k).2 = 12 ∨ (tgt k).2 = 30)) := fun k hk => by
          have h : ∀ k : Fin 57, (tgt k.val).1 ≠ 193 ∧ (tgt k.val).1 ≠ 189 ∧ ¬ ((tgt k.val).1 = 187 ∧ ((tgt k.val).2 = 12 ∨ (tgt k.val).2 = 30)) := by decide +kernel
          exact h ⟨k, hk⟩
        induction j with
        | zero =>
          intro k m4 hk w4 f4 c1 c2 c3
          obtain rfl : k = 5 := hk
          have d2 : m4.1 214 (71 * i + 57 + 8 + 5) = m.1 214 (71 * i + 70) := f4.at (nRS (ρ := 40) rfl rfl)
          have d3 : m4.1 187 11 = m.1 187 11 := f4.at (nRS (ρ := 25) rfl rfl)
          refine g_X12_again_98 ?_
          rw [add_l 5 5 rfl, nI_clamp (by omega), d2, d3]
          have fin : ∀ v : Int32, (v = if m.1 187 11 = 0 then 0 else m.1 214 (71 * i + 70) - m.1 214 (71 * i + 70) / m.1 187 11 * m.1 187 11) → agM m i (uI (uI m4 187 12 v) 187 30 0) := fun v hv =>
            ⟨(w4.n rfl).t rfl (by decide) (by decide), (f4.i rfl).i rfl, fun k hk => (u_ne (fun q => (tg k hk).2.2 ⟨q.1, Or.inr q.2⟩)).trans ((u_ne (fun q => (tg k hk).2.2 ⟨q.1, Or.inl q.2⟩)).trans (c1 k hk)), fun s hs => (u_ne (by omega)).trans ((u_ne (by omega)).trans (c2 s hs)), fun q hq => (u_ne (by omega)).trans ((u_ne (by omega)).trans (c3 q hq)), u_eq, (u_ne (by omega)).trans (u_eq.trans hv)⟩
          exact ⟨fun _ => ⟨fun h11 => ⟨nat_in (by omega) (by decide), h11, Or.inl ⟨i, hi, rfl, ⟨hz, ht⟩, rfl, fin _ (by rw [if_neg h11])⟩⟩, fun h11 => Or.inl ⟨i, hi, rfl, ⟨hz, ht⟩, rfl, fin _ (by rw [if_pos h11])⟩⟩, fun z => absurd (by decide) z⟩
        | succ j ih =>
          intro k m4 hk w4 f4 c1 c2 c3
          have d2 : m4.1 214 (71 * i + 57 + 8 + k) = m.1 214 (71 * i + 57 + 8 + k) := f4.at (nRS (ρ := 40) rfl rfl)
          refine g_X12_again_98 ?_
          rw [nI_add, nI_1, nI_clamp (by omega), nI_clamp (by omega), d2]
          refine ⟨fun z => absurd ((le_l 5 5 rfl (by decide) (by omega)).mp z) (by omega), fun _ => ⟨nat_in (by omega) (by decide), nat_in (by omega) (by decide), ih (k + 1) _ (by omega) (w4.n rfl) (f4.i rfl) (fun q hq => (u_ne (fun z => (tg q hq).1 z.1)).trans (c1 q hq)) (fun s hs => (u_ne (by omega)).trans (c2 s hs)) (fun q hq => ?_)⟩⟩
          by_cases hqk : q = k
          · subst hqk
            have e : 71 * i + 65 + q = 71 * i + 57 + 8 + q := by omega
            rw [e]; exact u_eq
          · exact (u_ne (fun z => hqk z.2)).trans (c3 q (by omega))
      have L58 : ∀ (j s : Nat) (m4 : Wm), s + j = 8 → WT m4 → Fx (RS [20, 24, 29, 46, 47, 49, 52]) m m4 → (∀ k, k < 57 → m4.1 (tgt k).1 (tgt k).2 = m.1 214 (71 * i + k)) → (∀ q, q < s → m4.1 189 q = if m.1 214 (71 * i + 57 + q) = 1 then 1 else 0) →
          AW ad E0 μX12_again (d + 2) (fun r m' => (∃ i', i' < 2 ∧ nI i = nI i' ∧ (m.1 215 i' ≠ 0 ∧ m.1 216 i' = m.1 187 53) ∧ r = some (.int 1) ∧ agM m i' m') ∨ ((∀ i', i' < 2 → nI i = nI i' → ¬ (m.1 215 i' ≠ 0 ∧ m.1 216 i' = m.1 187 53)) ∧ r = some (.int 0) ∧ WT m' ∧ Fx (RS [20]) m m')) 58 [(0, .ref (ad 187)), (2, .int (nI (71 * i + 57))), (3, .int (nI s))] [] m4 := by
        intro j
        have tg : ∀ k, k < 57 → (tgt k).1 ≠ 189 := fun k hk => by
          have h : ∀ k : Fin 57, (tgt k.val).1 ≠ 189 := by decide +kernel
          exact h ⟨k, hk⟩
        induction j with
        | zero =>
          intro s m4 hs w4 f4 c1 c2
          obtain rfl : s = 8 := hs
          refine g_X12_again_58 ?_
          rw [add_l 8 8 rfl]
          exact ⟨fun _ => L98 5 0 m4 rfl w4 f4 c1 c2 (fun q hq => absurd hq (Nat.not_lt_zero q)), fun z => absurd (by decide) z⟩
        | succ j ih =>
          intro s m4 hs w4 f4 c1 c2
          have d2 : m4.1 214 (71 * i + 57 + s) = m.1 214 (71 * i + 57 + s) := f4.at (nRS (ρ := 40) rfl rfl)
          refine g_X12_again_58 ?_
          rw [nI_add, nI_1, nI_clamp (by omega), nI_clamp (by omega), d2]
          have nx : ∀ v : Int32, (v = if m.1 214 (71 * i + 57 + s) = 1 then 1 else 0) → AW ad E0 μX12_again (d + 2) (fun r m' => (∃ i', i' < 2 ∧ nI i = nI i' ∧ (m.1 215 i' ≠ 0 ∧ m.1 216 i' = m.1 187 53) ∧ r = some (.int 1) ∧ agM m i' m') ∨ ((∀ i', i' < 2 → nI i = nI i' → ¬ (m.1 215 i' ≠ 0 ∧ m.1 216 i' = m.1 187 53)) ∧ r = some (.int 0) ∧ WT m' ∧ Fx (RS [20]) m m')) 58 [(0, .ref (ad 187)), (2, .int (nI (71 * i + 57))), (3, .int (nI (s + 1)))] [] (uI m4 189 s v) := fun v hv =>
            ih (s + 1) _ (by omega) (w4.n rfl) (f4.i rfl) (fun q hq => (u_ne (fun z => tg q hq z.1)).trans (c1 q hq)) (fun q hq => by
              by_cases hqs : q = s
              · rw [hqs, ← hv]; exact u_eq
              · exact (u_ne (fun z => hqs z.2)).trans (c2 q (by omega)))
          exact ⟨fun z => absurd ((le_l 8 8 rfl (by decide) (by omega)).mp z) (by omega), fun _ => ⟨nat_in (by omega) (by decide), fun hz => ⟨nat_in (by omega) (by decide), nx 0 (by rw [if_neg hz])⟩, fun hz => ⟨nat_in (by omega) (by decide), nx 1 (by rw [if_pos hz])⟩⟩⟩
      exact L58 8 0 m3 rfl w3 f3 b1 (fun q hq => absurd hq (Nat.not_lt_zero q))
    · rw [ii i' a b]; exact fun q => ht q.2
  · refine ⟨0, by rw [if_neg hc], fun _ => no (fun i hi hx => absurd ?_ hc), fun z => absurd rfl z⟩
    have : x.toInt = i := by rw [hx, nI_toInt (by omega)]
    exact ⟨(fa_le _ _).mpr (by omega), (fa_le _ _).mpr (by omega)⟩
end KPM
