/-! EACH WITH EACH: THE MODEL -/
def MRel (A B C : Nat → Nat) (g : Nat) (np : Nat → Int32) : Prop := ∀ j, j < g → np (4 * j) = nI (A j) ∧ np (4 * j + 1) = nI (B j) ∧ np (4 * j + 2) = 0 ∧ np (4 * j + 3) = nI (C j)
section CRM
variable {ad : Nat → Nat} {d : Nat} {m : Wm} {n : Nat}
def ciM (m : Wm) (n z : Nat) (r : Option Value) (m' : Wm) : Prop := WT m' ∧ Fx (RS [20, 25, 32, 52, 55]) m m' ∧ ((n < 2 ∧ r = some (.int (-1)) ∧ Fx (RS [20]) m m') ∨ (2 ≤ n ∧ r = some (.int (nI (z - 1))) ∧ m'.1 187 11 = nI (z - 1) ∧ m'.1 187 12 = 0 ∧ m'.1 187 10 = nI (cOut n z (z - 1)).1.1 ∧ MRel (cOut n z (z - 1)).1.2.1 (cOut n z (z - 1)).1.2.2.1 (cOut n z (z - 1)).1.2.2.2 (cOut n z (z - 1)).1.1 (m'.1 194)))
theorem e_circleM (w : WT m) (hn : m.1 187 1 = nI n) (hn8 : n ≤ 8) : Ct ad μX12_circle (d + 2) [.ref (ad 187)] m (ciM m n (n + n % 2)) := by
  have w0 : WT (uI m 187 17 0) := w.n rfl
  have F0 : Fx (RS [20, 25, 32, 52, 55]) m (uI m 187 17 0) := (Fx.rf (S := RS [20, 25, 32, 52, 55]) (m := m)).i (a := 187) (k := 17) rfl
  have es0 : (uI m 187 17 0).1 187 1 = nI n := hn
  refine v_X12_circle (d := d + 1) ?_
  rw [es0]
  refine ⟨fun c => ?_, fun c => ⟨w0, F0, Or.inl ⟨Nat.lt_of_not_le (fun q => c ((le_l 2 2 rfl (by decide) (by omega)).mpr q)), rfl, Fx.rf.i rfl⟩⟩⟩
  have hn2 : 2 ≤ n := (le_l 2 2 rfl (by omega) (by omega)).mp c
  have er : nI n - nI n / 2 * 2 = nI (n % 2) := nI_rem (g := n) (G := 2) (by omega) (by decide) (by decide)
  rw [er, nI_add]
  obtain ⟨z, hz⟩ : ∃ z, n + n % 2 = z := ⟨_, rfl⟩
  rw [hz]
  have z8 : z ≤ 8 := by omega
  have z2 : 2 ≤ z := by omega
  have ez1 : nI z - 1 = nI (z - 1) := nI_sb (b := 1) (by omega) (by omega)
  have ez2 : nI z / 2 = nI (z / 2) := pk_div (a := z) (d := 2) (by omega) (by decide) (by decide)
  have sid : ∀ m1, Fx (RS [20, 25, 32, 52, 55]) m m1 → m1.1 187 1 = nI n := fun m1 f1 => (f1.at (by decide)).trans hn
  have wt203 : ∀ {m1 : Wm} {k v : Nat}, WT m1 → v < z → WT (uI m1 203 k (nI v)) := by
    intro m1 k v w1 hv
    have tv : (nI v).toInt = v := nI_toInt (by omega)
    exact w1.t rfl (by omega) (by omega)
  -- the rounds
  have R : ∀ (i r : Nat) (m1 : Wm), r + i = z - 1 → WT m1 → Fx (RS [20, 25, 32, 52, 55]) m m1 → m1.1 187 10 = nI (cOut n z r).1.1 → MRel (cOut n z r).1.2.1 (cOut n z r).1.2.2.1 (cOut n z r).1.2.2.2 (cOut n z r).1.1 (m1.1 194) → (∀ k, k < z → m1.1 203 k = nI ((cOut n z r).2.1 k)) →
      AW ad E0 μX12_circle (d + 1 + 1) (ciM m n z) 54 [(0, .ref (ad 187)), (1, .int (nI z)), (2, .int (nI r))] [] m1 := by
    intro i
    induction i with
    | zero =>
      intro r m1 hr w1 f1 e10 hM hf
      obtain rfl : r = z - 1 := by omega
      refine g_X12_circle_54 ?_
      rw [ez1]
      exact ⟨fun _ => ⟨(w1.t rfl (by rw [nI_toInt (by omega)]; omega) (by rw [nI_toInt (by omega)]; omega)).n rfl, (f1.i rfl).i rfl, Or.inr ⟨hn2, rfl, rfl, rfl, e10, hM⟩⟩, fun c => absurd ((nI_leI (by omega) (by omega)).mpr (by omega)) c⟩
    | succ i ih =>
      intro r m1 hr w1 f1 e10 hM hf
      have g0 := cOut_le (n := n) (z := z) z8 r
      have ff := cOut_f (n := n) z2 r
      refine g_X12_circle_54 ?_
      rw [ez1]
      refine ⟨fun c => absurd ((nI_leI (by omega) (by omega)).mp c) (by omega), fun _ => ?_⟩
      -- the places move
      have L197 : ∀ (k : Nat) (m2 : Wm), 1 ≤ k → k < z → WT m2 → Fx (RS [20, 25, 32, 52, 55]) m m2 → m2.1 187 10 = nI (cOut n z (r + 1)).1.1 → MRel (cOut n z (r + 1)).1.2.1 (cOut n z (r + 1)).1.2.2.1 (cOut n z (r + 1)).1.2.2.2 (cOut n z (r + 1)).1.1 (m2.1 194) → (∀ j, j ≤ k → m2.1 203 j = nI ((cOut n z r).2.1 j)) → (∀ j, k < j → j < z → m2.1 203 j = nI ((cOut n z r).2.1 (j - 1))) →
          AW ad E0 μX12_circle (d + 1 + 1) (ciM m n z) 197 [(0, .ref (ad 187)), (1, .int (nI z)), (2, .int (nI r)), (3, .int (nI ((cOut n z r).2.1 (z - 1)))), (4, .int (nI k))] [] m2 := by
        intro k
        induction k with
        | zero => intro _ h; omega
        | succ k ih2 =>
          intro m2 h1 hk w2 f2 e2 hM2 r1 r2
          by_cases hk0 : k = 0
          · subst hk0
            refine g_X12_circle_197 ⟨fun _ => ?_, fun c => absurd (by decide) c⟩
            rw [nI_1]
            have e11 : (1 : Int32).toNatClampNeg = 1 := rfl
            rw [e11]
            refine ih (r + 1) _ (by omega) (wt203 w2 (ff _ (by omega))) (f2.i rfl) e2 (fun j hj => ?_) (fun j hj => ?_)
            · rw [u_ne (by omega), u_ne (by omega), u_ne (by omega), u_ne (by omega)]
              exact hM2 j hj
            · show _ = nI (rotN z (cOut n z r).2.1 j)
              unfold rotN
              by_cases hj1 : j = 1
              · rw [hj1, if_neg (by decide), if_pos rfl]
                exact u_eq
              · rw [if_neg hj1]
                refine (u_ne (fun q => hj1 q.2)).trans ?_
                by_cases hj0 : j = 0
                · rw [if_pos hj0, hj0]; exact r1 0 (by omega)
                · rw [if_neg hj0]; exact r2 j (by omega) hj
          · refine g_X12_circle_197 ?_
            rw [nI_pred, nI_dn (by omega), nI_clamp (by omega), nI_clamp (by omega), r1 k (by omega)]
            refine ⟨fun c => absurd ((l_le 1 1 rfl (by omega) (by omega)).mp c) (by omega), fun _ => ⟨nat_in (by omega) (by decide), nat_in (by omega) (by decide), ih2 _ (by omega) (by omega) (wt203 w2 (ff k (by omega))) (f2.i rfl) e2 (fun j hj => ?_) (fun j hj => (u_ne (by omega)).trans (r1 j (by omega))) (fun j hj1 hj2 => ?_)⟩⟩
            · rw [u_ne (by omega), u_ne (by omega), u_ne (by omega), u_ne (by omega)]
              exact hM2 j hj
            · by_cases hjk : j = k + 1
              · rw [hjk, Nat.add_sub_cancel]; exact u_eq
              · exact (u_ne (fun q => hjk q.2)).trans (r2 j (by omega) hj2)
      have IL : ∀ (i k : Nat) (m3 : Wm), k + i = z / 2 → WT m3 → Fx (RS [20, 25, 32, 52, 55]) m m3 → m3.1 187 10 = nI (cIn (cOut n z r).2.1 n z r k (cOut n z r).1).1 → MRel (cIn (cOut n z r).2.1 n z r k (cOut n z r).1).2.1 (cIn (cOut n z r).2.1 n z r k (cOut n z r).1).2.2.1 (cIn (cOut n z r).2.1 n z r k (cOut n z r).1).2.2.2 (cIn (cOut n z r).2.1 n z r k (cOut n z r).1).1 (m3.1 194) → (∀ k, k < z → m3.1 203 k = nI ((cOut n z r).2.1 k)) →
          AW ad E0 μX12_circle (d + 1 + 1) (ciM m n z) 63 [(0, .ref (ad 187)), (1, .int (nI z)), (2, .int (nI r)), (3, .int (nI k))] [] m3 := by
        intro i
        induction i with
        | zero =>
          intro k m3 hk w3 f3 a10 aM af
          obtain rfl : k = z / 2 := by omega
          refine g_X12_circle_63 ?_
          rw [ez2, ez1, nI_clamp (by omega), af (z - 1) (by omega)]
          exact ⟨fun _ => ⟨nat_in (by omega) (by decide), L197 (z - 1) m3 (by omega) (by omega) w3 f3 a10 aM (fun j hj => af j (by omega)) (fun j h1 h2 => absurd h2 (by omega))⟩, fun c => absurd ((nI_leI (by omega) (by omega)).mpr (by omega)) c⟩
        | succ i ih2 =>
          intro k m3 hk w3 f3 a10 aM af
          have hkz : k < z := by omega
          have ek : nI (z - 1) - nI k = nI (z - 1 - k) := nI_sb (by omega) (by omega)
          have f1' := ff k hkz
          have f2' := ff (z - 1 - k) (by omega)
          have lei := (cIn_le (f := (cOut n z r).2.1) (n := n) (z := z) (r := r) (S := (cOut n z r).1) k).2
          have es3 := sid m3 f3
          have t1 : (nI ((cOut n z r).2.1 k)).toInt = (cOut n z r).2.1 k := nI_toInt (by omega)
          have t2 : (nI ((cOut n z r).2.1 (z - 1 - k))).toInt = (cOut n z r).2.1 (z - 1 - k) := nI_toInt (by omega)
          refine g_X12_circle_63 ?_
          rw [ez2, ez1, ek, nI_1, nI_clamp (n := k) (by omega), nI_clamp (n := z - 1 - k) (by omega), af k hkz, af (z - 1 - k) (by omega)]
          have skip : ¬ ((cOut n z r).2.1 k < n ∧ (cOut n z r).2.1 (z - 1 - k) < n) → AW ad E0 μX12_circle (d + 1 + 1) (ciM m n z) 63 [(0, .ref (ad 187)), (1, .int (nI z)), (2, .int (nI r)), (3, .int (nI (k + 1)))] [] m3 := fun hn => by
            have e : cIn (cOut n z r).2.1 n z r (k + 1) (cOut n z r).1 = cIn (cOut n z r).2.1 n z r k (cOut n z r).1 := by
              show cStep _ n z r k _ = _
              unfold cStep
              rw [if_neg hn]
            exact ih2 (k + 1) m3 (by omega) w3 f3 (by rw [e]; exact a10) (by rw [e]; exact aM) af
          refine ⟨fun c => absurd ((nI_leI (by omega) (by omega)).mp c) (by omega), fun _ => ⟨nat_in (by omega) (by decide), nat_in (by omega) (by decide), (e_isSide (d := d) es3 hn8).to ?_⟩⟩
          rintro _ m' ⟨eq, rfl⟩
          obtain rfl := eq.symm
          by_cases h1 : (cOut n z r).2.1 k < n
          · refine ⟨1, by rw [if_pos (by omega)], fun q => absurd q (by decide), fun _ => (e_isSide (d := d) es3 hn8).to ?_⟩
            rintro _ m' ⟨eq, rfl⟩
            obtain rfl := eq.symm
            by_cases h2 : (cOut n z r).2.1 (z - 1 - k) < n
            · refine ⟨1, by rw [if_pos (by omega)], fun _ => ?_, fun q => absurd q (by decide)⟩
              have e : cIn (cOut n z r).2.1 n z r (k + 1) (cOut n z r).1 = ((cIn (cOut n z r).2.1 n z r k (cOut n z r).1).1 + 1, updN (cIn (cOut n z r).2.1 n z r k (cOut n z r).1).2.1 (cIn (cOut n z r).2.1 n z r k (cOut n z r).1).1 ((cOut n z r).2.1 k), updN (cIn (cOut n z r).2.1 n z r k (cOut n z r).1).2.2.1 (cIn (cOut n z r).2.1 n z r k (cOut n z r).1).1 ((cOut n z r).2.1 (z - 1 - k)), updN (cIn (cOut n z r).2.1 n z r k (cOut n z r).1).2.2.2 (cIn (cOut n z r).2.1 n z r k (cOut n z r).1).1 r) := by
                show cStep _ n z r k _ = _
                unfold cStep
                rw [if_pos ⟨h1, h2⟩]
              have ih3 := ih2 (k + 1)
              rw [e] at ih3
              generalize cIn (cOut n z r).2.1 n z r k (cOut n z r).1 = S at aM a10 lei ih3
              obtain ⟨g, A, B, C⟩ := S
              dsimp only at aM a10 lei ih3
              generalize (cOut n z r).2.1 k = va at h1 f1' t1 ih3 ⊢
              generalize (cOut n z r).2.1 (z - 1 - k) = vb at h2 f2' t2 ih3 ⊢
              show vp_in ((4 : Int32) * (m3.1 187 10)) 160 ∧ vp_in (((4 : Int32) * (m3.1 187 10)) + 1) 160 ∧ vp_in (((4 : Int32) * (m3.1 187 10)) + 2) 160 ∧ vp_in (((4 : Int32) * (m3.1 187 10)) + 3) 160 ∧ AW ad E0 μX12_circle (d + 1 + 1) (ciM m n z) 63 [(0, .ref (ad 187)), (1, .int (nI z)), (2, .int (nI r)), (3, .int (nI (k + 1)))] [] (uI (uI (uI (uI (uI m3 194 ((4 : Int32) * (m3.1 187 10)).toNatClampNeg (nI va)) 194 (((4 : Int32) * (m3.1 187 10)) + 1).toNatClampNeg (nI vb)) 194 (((4 : Int32) * (m3.1 187 10)) + 2).toNatClampNeg 0) 194 (((4 : Int32) * (m3.1 187 10)) + 3).toNatClampNeg (nI r)) 187 10 ((m3.1 187 10) + 1))
              rw [a10]
              have tg : (nI g).toInt = (g : Int) := nI_toInt (by omega)
              have l4 : (4 : Int32) * nI g = nI (4 * g) := l_mul 4 4 rfl g
              have W : WT (uI (uI (uI (uI m3 194 ((4 : Int32) * nI g).toNatClampNeg (nI va)) 194 (((4 : Int32) * nI g) + 1).toNatClampNeg (nI vb)) 194 (((4 : Int32) * nI g) + 2).toNatClampNeg 0) 194 (((4 : Int32) * nI g) + 3).toNatClampNeg (nI r)) :=
                (((w3.up0 (x := nI g) (v := nI va) ⟨by omega, by omega⟩ ⟨by omega, by omega⟩).up1 (x := nI g) (v := nI vb) ⟨by omega, by omega⟩ ⟨by omega, by omega⟩).up2 (x := nI g) ⟨by omega, by omega⟩).up3 (x := nI g) ⟨by omega, by omega⟩
              rw [l4, nI_1 (4 * g), add_l 2 2 rfl, add_l 3 3 rfl, nI_clamp (by omega), nI_clamp (by omega), nI_clamp (by omega), nI_clamp (by omega)] at W
              rw [l4, nI_1 (4 * g), add_l 2 2 rfl, add_l 3 3 rfl, nI_clamp (by omega), nI_clamp (by omega), nI_clamp (by omega), nI_clamp (by omega), nI_1 g]
              refine ⟨nat_in (by omega) (by decide), nat_in (by omega) (by decide), nat_in (by omega) (by decide), nat_in (by omega) (by decide), ih3 _ (by omega) (W.t rfl (by rw [nI_toInt (by omega)]; omega) (by rw [nI_toInt (by omega)]; omega)) (((((f3.i rfl).i rfl).i rfl).i rfl).i rfl) rfl ?_ (fun j hj => af j hj)⟩
              intro j hj
              by_cases hjg : j = g
              · subst hjg
                rw [updN_e, updN_e, updN_e]
                exact ⟨(u_ne (by omega)).trans ((u_ne (by omega)).trans ((u_ne (by omega)).trans ((u_ne (by omega)).trans u_eq))), (u_ne (by omega)).trans ((u_ne (by omega)).trans ((u_ne (by omega)).trans u_eq)), (u_ne (by omega)).trans ((u_ne (by omega)).trans u_eq), (u_ne (by omega)).trans u_eq⟩
              · rw [updN_n hjg, updN_n hjg, updN_n hjg]
                obtain ⟨b1, b2, b3, b4⟩ := aM j (by omega)
                exact ⟨(u_ne (by omega)).trans ((u_ne (by omega)).trans ((u_ne (by omega)).trans ((u_ne (by omega)).trans ((u_ne (by omega)).trans b1)))), (u_ne (by omega)).trans ((u_ne (by omega)).trans ((u_ne (by omega)).trans ((u_ne (by omega)).trans ((u_ne (by omega)).trans b2)))), (u_ne (by omega)).trans ((u_ne (by omega)).trans ((u_ne (by omega)).trans ((u_ne (by omega)).trans ((u_ne (by omega)).trans b3)))), (u_ne (by omega)).trans ((u_ne (by omega)).trans ((u_ne (by omega)).trans ((u_ne (by omega)).trans ((u_ne (by omega)).trans b4))))⟩
            · exact ⟨0, by rw [if_neg (by omega)], fun q => absurd rfl q, fun _ => skip (fun q => h2 q.2)⟩
          · exact ⟨0, by rw [if_neg (by omega)], fun _ => skip (fun q => h1 q.1), fun q => absurd rfl q⟩
      exact IL (z / 2) 0 m1 (by omega) w1 f1 e10 hM hf
  have PL : ∀ (i k : Nat) (m1 : Wm), k + i = z → WT m1 → Fx (RS [20, 25, 32, 52, 55]) m m1 → (∀ j, j < k → m1.1 203 j = nI j) →
      AW ad E0 μX12_circle (d + 1 + 1) (ciM m n z) 29 [(0, .ref (ad 187)), (1, .int (nI z)), (2, .int (nI k))] [] m1 := by
    intro i
    induction i with
    | zero =>
      intro k m1 hk w1 f1 af
      obtain rfl : k = z := hk
      exact g_X12_circle_29 ⟨fun _ => R (k - 1) 0 _ (by omega) (w1.t rfl (by decide) (by decide)) (f1.i rfl) rfl (fun j hj => absurd hj (Nat.not_lt_zero j)) (fun j hj => af j hj), fun c => absurd (nI_le (Nat.le_refl _) (by omega)) c⟩
    | succ i ih =>
      intro k m1 hk w1 f1 af
      refine g_X12_circle_29 ⟨fun c => absurd ((nI_leI (by omega) (by omega)).mp c) (by omega), fun _ => ⟨nat_in (by omega) (by decide), ?_⟩⟩
      rw [nI_1, nI_clamp (by omega)]
      refine ih (k + 1) _ (by omega) (wt203 w1 (by omega)) (f1.i rfl) (fun j hj => ?_)
      by_cases hjk : j = k
      · rw [hjk]; exact u_eq
      · exact (u_ne (fun q => hjk q.2)).trans (af j (by omega))
  exact PL z 0 _ (by omega) w0 F0 (fun j hj => absurd hj (Nat.not_lt_zero j))
end CRM
