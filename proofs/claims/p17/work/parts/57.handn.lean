/-! THE CIRCLE (model): at least one game in the first round -/
section CIR
variable {ad : Nat → Nat} {d : Nat} {m : Wm}
theorem nI_sb {a b : Nat} (h : b ≤ a) (ha : a < 2147483648) : nI a - nI b = nI (a - b) := by
  refine (fa_eq _ _).mpr ?_
  have e1 : (nI a).toInt = (a : Int) := nI_toInt ha
  have e2 : (nI b).toInt = (b : Int) := nI_toInt (by omega)
  rw [ti_sub (by omega), e1, e2, nI_toInt (by omega)]
  omega
theorem nI_dn {a : Nat} (ha : a + 1 < 2147483648) : nI (a + 1) + (-1) = nI a := by
  refine (fa_eq _ _).mpr ?_
  have e1 : (nI (a + 1)).toInt = ((a + 1 : Nat) : Int) := nI_toInt ha
  rw [ti_addc (c := -1) rfl (by omega), e1, nI_toInt (by omega)]
  omega
theorem isS {x : Int32} {sd : Nat} (h1 : 1 ≤ sd) (hs : sd ≤ 8) : (0 ≤ x ∧ x ≤ nI sd - 1) ↔ (0 ≤ x.toInt ∧ x.toInt < (sd : Int)) := by
  have z0 : (0 : Int32).toInt = 0 := rfl
  have e1 : nI sd - 1 = nI (sd - 1) := nI_sb (b := 1) h1 (by omega)
  have e2 : (nI (sd - 1)).toInt = ((sd - 1 : Nat) : Int) := nI_toInt (by omega)
  rw [e1]
  constructor
  · intro ⟨a, b⟩
    have := z_le a
    have := z_le b
    omega
  · intro ⟨a, b⟩
    exact ⟨Int32.le_iff_toInt_le.mpr (by omega), Int32.le_iff_toInt_le.mpr (by omega)⟩
def ciQ (m : Wm) (r : Option Value) (m' : Wm) : Prop := WT m' ∧ Fx (RS [20, 25, 32, 52, 55]) m m' ∧ (∃ v : Int32, r = some (.int v)) ∧ ((m'.1 187 10 = m.1 187 10 ∧ m'.1 187 11 = m.1 187 11) ∨ 1 ≤ (m'.1 187 10).toInt)
theorem s_X12_circle (w : WT m) : Ct ad μX12_circle (d + 2) [.ref (ad 187)] m (ciQ m) := by
  obtain ⟨sd, es, -, s1, s2, s3⟩ := w.nat (a := 187) (k := 1) rfl (by decide)
  have sd8 : sd ≤ 8 := by omega
  have z0 : (0 : Int32).toInt = 0 := rfl
  have z1 : (1 : Int32).toInt = 1 := rfl
  have w0 : WT (uI m 187 17 0) := w.n rfl
  have F0 : Fx (RS [20, 25, 32, 52, 55]) m (uI m 187 17 0) := (Fx.rf (S := RS [20, 25, 32, 52, 55]) (m := m)).i (a := 187) (k := 17) rfl
  refine v_X12_circle (d := d + 1) ⟨fun c => ?_, fun _ => ⟨w0, F0, ⟨_, rfl⟩, Or.inl ⟨rfl, rfl⟩⟩⟩
  have es0 : (uI m 187 17 0).1 187 1 = nI sd := es
  rw [es0] at c ⊢
  have hsd : 2 ≤ sd := (le_l 2 2 rfl (by omega) (by omega)).mp c
  have er : nI sd - nI sd / 2 * 2 = nI (sd % 2) := nI_rem (g := sd) (G := 2) (by omega) (by decide) (by decide)
  rw [er, nI_add]
  obtain ⟨n, hn⟩ : ∃ n, sd + sd % 2 = n := ⟨_, rfl⟩
  rw [hn]
  have n8 : n ≤ 8 := by omega
  have n2 : 2 ≤ n := by omega
  have ne : n = 2 * (n / 2) := by omega
  have nn1 : nI n - 1 = nI (n - 1) := nI_sb (b := 1) (by omega) (by omega)
  have nh : nI n / 2 = nI (n / 2) := pk_div (a := n) (d := 2) (by omega) (by decide) (by decide)
  have sid : ∀ m1, Fx (RS [20, 25, 32, 52, 55]) m m1 → m1.1 187 1 = nI sd := fun m1 f1 => (f1.at (by decide)).trans es
  -- the rounds
  have R : ∀ (i r g : Nat) (m1 : Wm), r + i = n - 1 → WT m1 → Fx (RS [20, 25, 32, 52, 55]) m m1 → m1.1 187 10 = nI g → g ≤ 4 * r → (r = 0 → ∀ k, k < n → m1.1 203 k = nI k) → (1 ≤ r → 1 ≤ g) → AW ad E0 μX12_circle (d + 1 + 1) (ciQ m) 54 [(0, .ref (ad 187)), (1, .int (nI n)), (2, .int (nI r))] [] m1 := by
    intro i
    induction i with
    | zero =>
      intro r g m1 hr w1 f1 e10 hg hid h1g
      refine g_X12_circle_54 ?_
      rw [nn1]
      refine ⟨fun _ => ⟨(w1.t rfl (by rw [nI_toInt (by omega)]; omega) (by rw [nI_toInt (by omega)]; omega)).n rfl, (f1.i rfl).i rfl, ⟨_, rfl⟩, Or.inr ?_⟩, fun c => absurd ((nI_leI (by omega) (by omega)).mpr (by omega)) c⟩
      show 1 ≤ (m1.1 187 10).toInt
      rw [e10, nI_toInt (by omega)]
      have := h1g (by omega)
      omega
    | succ i ih =>
      intro r g m1 hr w1 f1 e10 hg hid h1g
      refine g_X12_circle_54 ?_
      rw [nn1]
      refine ⟨fun c => absurd ((nI_leI (by omega) (by omega)).mp c) (by omega), fun _ => ?_⟩
      -- the places move
      have L197 : ∀ (j : Nat) (x3 : Int32) (m2 : Wm), j + 1 ≤ n - 1 → 0 ≤ x3.toInt → x3.toInt ≤ 8 → ∀ g2, WT m2 → Fx (RS [20, 25, 32, 52, 55]) m m2 → m2.1 187 10 = nI g2 → g2 ≤ 4 * (r + 1) → 1 ≤ g2 → AW ad E0 μX12_circle (d + 1 + 1) (ciQ m) 197 [(0, .ref (ad 187)), (1, .int (nI n)), (2, .int (nI r)), (3, .int x3), (4, .int (nI (j + 1)))] [] m2 := by
        intro j
        induction j with
        | zero =>
          intro x3 m2 hj a1 a2 g2 w2 f2 e2 h2 h3
          refine g_X12_circle_197 ⟨fun _ => ?_, fun c => absurd (by decide) c⟩
          rw [nI_1]
          exact ih (r + 1) g2 _ (by omega) (w2.t rfl a1 a2) (f2.i rfl) e2 h2 (fun q => absurd q (by omega)) (fun _ => h3)
        | succ j ih2 =>
          intro x3 m2 hj a1 a2 g2 w2 f2 e2 h2 h3
          have q1 : nI (j + 1 + 1) - 1 = nI (j + 1) := nI_sb (b := 1) (by omega) (by omega)
          refine g_X12_circle_197 ?_
          rw [q1, nI_dn (by omega), nI_clamp (by omega), nI_clamp (by omega)]
          refine ⟨fun c => absurd ((l_le 1 1 rfl (by omega) (by omega)).mp c) (by omega), fun _ => ⟨nat_in (by omega) (by decide), nat_in (by omega) (by decide), ?_⟩⟩
          have t := w2.at (a := 203) (k := j + 1) rfl
          exact ih2 x3 _ (by omega) a1 a2 g2 (w2.t rfl t.1 t.2) (f2.i rfl) e2 h2 h3
      -- the games of the round
      have L63 : ∀ (j p g2 : Nat) (m2 : Wm), p + j = n / 2 → WT m2 → Fx (RS [20, 25, 32, 52, 55]) m m2 → m2.1 187 10 = nI g2 → g2 ≤ 4 * r + p → (1 ≤ r → 1 ≤ g2) → (r = 0 → (∀ k, k < n → m2.1 203 k = nI k) ∧ (1 ≤ g2 ∨ p = 0 ∨ (p = 1 ∧ n = sd + 1))) → AW ad E0 μX12_circle (d + 1 + 1) (ciQ m) 63 [(0, .ref (ad 187)), (1, .int (nI n)), (2, .int (nI r)), (3, .int (nI p))] [] m2 := by
        intro j
        induction j with
        | zero =>
          intro p g2 m2 hp w2 f2 e2 h2 h3 h4
          refine g_X12_circle_63 ?_
          rw [nh, nn1, nI_clamp (by omega)]
          refine ⟨fun _ => ⟨nat_in (by omega) (by decide), ?_⟩, fun c => absurd ((nI_leI (by omega) (by omega)).mpr (by omega)) c⟩
          have t := w2.at (a := 203) (k := n - 1) rfl
          obtain ⟨b, hb⟩ : ∃ b, n - 1 = b + 1 := ⟨n - 2, by omega⟩
          rw [hb] at t ⊢
          refine L197 b _ m2 (by omega) t.1 t.2 g2 w2 f2 e2 (by omega) ?_
          by_cases hr0 : r = 0
          · rcases (h4 hr0).2 with q | q | q
            · exact q
            · omega
            · omega
          · exact h3 (by omega)
        | succ j ih2 =>
          intro p g2 m2 hp w2 f2 e2 h2 h3 h4
          have tp := w2.at (a := 203) (k := p) rfl
          have tq := w2.at (a := 203) (k := n - 1 - p) rfl
          have sub : nI (n - 1) - nI p = nI (n - 1 - p) := nI_sb (by omega) (by omega)
          have es2 := sid m2 f2
          refine g_X12_circle_63 ?_
          rw [nh, nn1, sub, nI_1, nI_clamp (n := p) (by omega), nI_clamp (n := n - 1 - p) (by omega)]
          refine ⟨fun c => absurd ((nI_leI (by omega) (by omega)).mp c) (by omega), fun _ => ⟨nat_in (by omega) (by decide), nat_in (by omega) (by decide), (isSide_c es2).to ?_⟩⟩
          rintro _ m' ⟨eq, rfl⟩
          obtain rfl := eq.symm
          -- no game here
          have no : (r = 0 → ¬ ((p < sd) ∧ (n - 1 - p < sd))) → AW ad E0 μX12_circle (d + 1 + 1) (ciQ m) 63 [(0, .ref (ad 187)), (1, .int (nI n)), (2, .int (nI r)), (3, .int (nI (p + 1)))] [] m2 := by
            intro hno
            refine ih2 (p + 1) g2 m2 (by omega) w2 f2 e2 (by omega) h3 (fun hr0 => ⟨(h4 hr0).1, ?_⟩)
            have := hno hr0
            rcases (h4 hr0).2 with q | q | q
            · exact Or.inl q
            · exact Or.inr (Or.inr (by omega))
            · omega
          by_cases ha : 0 ≤ m2.1 203 p ∧ m2.1 203 p ≤ nI sd - 1
          · have ha' := (isS (by omega) sd8).mp ha
            refine ⟨1, by rw [if_pos ha], fun c => absurd c (by decide), fun _ => (isSide_c es2).to ?_⟩
            rintro _ m' ⟨eq, rfl⟩
            obtain rfl := eq.symm
            by_cases hb : 0 ≤ m2.1 203 (n - 1 - p) ∧ m2.1 203 (n - 1 - p) ≤ nI sd - 1
            · have hb' := (isS (by omega) sd8).mp hb
              refine ⟨1, by rw [if_pos hb], fun _ => ?_, fun c => absurd c (by decide)⟩
              generalize m2.1 203 p = va at ha' ⊢
              generalize m2.1 203 (n - 1 - p) = vb at hb' ⊢
              show vp_in ((4 : Int32) * (m2.1 187 10)) 160 ∧ vp_in (((4 : Int32) * (m2.1 187 10)) + 1) 160 ∧ vp_in (((4 : Int32) * (m2.1 187 10)) + 2) 160 ∧ vp_in (((4 : Int32) * (m2.1 187 10)) + 3) 160 ∧ AW ad E0 μX12_circle (d + 1 + 1) (ciQ m) 63 [(0, .ref (ad 187)), (1, .int (nI n)), (2, .int (nI r)), (3, .int (nI (p + 1)))] [] (uI (uI (uI (uI (uI m2 194 ((4 : Int32) * (m2.1 187 10)).toNatClampNeg va) 194 (((4 : Int32) * (m2.1 187 10)) + 1).toNatClampNeg vb) 194 (((4 : Int32) * (m2.1 187 10)) + 2).toNatClampNeg 0) 194 (((4 : Int32) * (m2.1 187 10)) + 3).toNatClampNeg (nI r)) 187 10 ((m2.1 187 10) + 1))
              rw [e2]
              have tg : (nI g2).toInt = (g2 : Int) := nI_toInt (by omega)
              have l4 : (4 : Int32) * nI g2 = nI (4 * g2) := l_mul 4 4 rfl g2
              have W : WT (uI (uI (uI (uI m2 194 ((4 : Int32) * nI g2).toNatClampNeg va) 194 (((4 : Int32) * nI g2) + 1).toNatClampNeg vb) 194 (((4 : Int32) * nI g2) + 2).toNatClampNeg 0) 194 (((4 : Int32) * nI g2) + 3).toNatClampNeg (nI r)) :=
                (((w2.up0 (x := nI g2) (v := va) ⟨by omega, by omega⟩ ⟨by omega, by omega⟩).up1 (x := nI g2) (v := vb) ⟨by omega, by omega⟩ ⟨by omega, by omega⟩).up2 (x := nI g2) ⟨by omega, by omega⟩).up3 (x := nI g2) ⟨by omega, by omega⟩
              refine ⟨by rw [l4]; exact nat_in (by omega) (by decide), by rw [l4, nI_1]; exact nat_in (by omega) (by decide), by rw [l4, add_l 2 2 rfl]; exact nat_in (by omega) (by decide), by rw [l4, add_l 3 3 rfl]; exact nat_in (by omega) (by decide), ?_⟩
              rw [nI_1 g2]
              refine ih2 (p + 1) (g2 + 1) _ (by omega) (W.t rfl (by rw [nI_toInt (by omega)]; omega) (by rw [nI_toInt (by omega)]; omega)) (((((f2.i rfl).i rfl).i rfl).i rfl).i rfl) rfl (by omega) (fun _ => by omega) (fun hr0 => ⟨(h4 hr0).1, Or.inl (by omega)⟩)
            · refine ⟨0, by rw [if_neg hb], fun c => absurd rfl c, fun _ => no (fun hr0 q => hb ((isS (by omega) sd8).mpr ?_))⟩
              rw [(h4 hr0).1 (n - 1 - p) (by omega), nI_toInt (by omega)]
              omega
          · refine ⟨0, by rw [if_neg ha], fun _ => no (fun hr0 q => ha ((isS (by omega) sd8).mpr ?_)), fun c => absurd rfl c⟩
            rw [(h4 hr0).1 p (by omega), nI_toInt (by omega)]
            omega
      exact L63 (n / 2) 0 g m1 (by omega) w1 f1 e10 (by omega) h1g (fun hr0 => ⟨hid hr0, Or.inr (Or.inl rfl)⟩)
  have L29 : ∀ (j k : Nat) (m1 : Wm), k + j = n → WT m1 → Fx (RS [20, 25, 32, 52, 55]) m m1 → (∀ i, i < k → m1.1 203 i = nI i) → AW ad E0 μX12_circle (d + 1 + 1) (ciQ m) 29 [(0, .ref (ad 187)), (1, .int (nI n)), (2, .int (nI k))] [] m1 := by
    intro j
    induction j with
    | zero =>
      intro k m1 hk w1 f1 h
      refine g_X12_circle_29 ⟨fun _ => ?_, fun c => absurd ((nI_leI (by omega) (by omega)).mpr (by omega)) c⟩
      exact R (n - 1) 0 0 _ (by omega) (w1.t rfl (by decide) (by decide)) (f1.i rfl) rfl (by decide) (fun _ i hi => h i (by omega)) (fun q => absurd q (by decide))
    | succ j ih =>
      intro k m1 hk w1 f1 h
      refine g_X12_circle_29 ⟨fun c => absurd ((nI_leI (by omega) (by omega)).mp c) (by omega), fun _ => ⟨nat_in (by omega) (by decide), ?_⟩⟩
      rw [nI_1, nI_clamp (by omega)]
      refine ih (k + 1) _ (by omega) (w1.t rfl (by rw [nI_toInt (by omega)]; omega) (by rw [nI_toInt (by omega)]; omega)) (f1.i rfl) (fun i hi => ?_)
      show (if 203 = 203 ∧ i = k then nI k else m1.1 203 i) = nI i
      by_cases hik : i = k
      · rw [if_pos ⟨rfl, hik⟩, hik]
      · rw [if_neg (fun q => hik q.2)]
        exact h i (by omega)
  exact L29 n 0 _ (by omega) w0 F0 (fun i hi => absurd hi (by omega))
end CIR
