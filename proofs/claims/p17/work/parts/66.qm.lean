/-! THE RULE: both sides -/
section RCV
variable {ad : Nat → Nat} {d b0 : Nat} {m m0 : Wm} {c : Int32} {w : Bool} {dg : Nat} {fs : List Bool} {cd wl : List Int32}
theorem e_take5 (hb : b0 = 5 ∨ b0 = 10) (wt : WT m) (f : Fx (RB b0) m0 m) (C : RX b0 ((w, dg, fs), cd, wl) m) (hl : cd.length + wl.length < 40) (hc : c.toInt ≤ 255) : Ct ad μX5_take (d + 3) [.ref (ad b0), .int c] m (fun r m' => ∃ v : Int32, r = some (.int v) ∧ RXQ m0 b0 c ((w, dg, fs), cd, wl) (some (.int v)) m') := by
  have g21 : ¬ isDg c → AW ad E0 μX5_take (d + 2 + 1) (fun r m' => ∃ v : Int32, r = some (.int v) ∧ RXQ m0 b0 c ((w, dg, fs), cd, wl) (some (.int v)) m') 21 [(0, .ref (ad b0)), (1, .int c)] [] m := fun hd => by
    have C0 : RX b0 ((w, 0, fs), cd, wl) (uI m b0 7 0) := by
      obtain ⟨c8, c7, dg3, c4, X, D, h1, h2, h6, hfl⟩ := C
      exact ⟨(u_ne (by omega)).trans c8, u_eq, by omega, c4, X.k (fun a k h => by unfold RK at h; exact u_ne (by omega)), D, h1, h2, (u_ne (by omega)).trans h6, fun i hi => (u_ne (by omega)).trans (hfl i hi)⟩
    have w0 : WT (uI m b0 7 0) := wR_n hb wt (Or.inl rfl)
    have f0 : Fx (RB b0) m0 (uI m b0 7 0) := fR hb f (by omega)
    have up : ∀ (v : Int32) (m' : Wm), RXQ m0 b0 c ((w, 0, fs), cd, wl) (some (.int v)) m' → RXQ m0 b0 c ((w, dg, fs), cd, wl) (some (.int v)) m' := fun v m' h => by
      unfold RXQ at h ⊢
      rw [xst_0 (dg := dg) hd]
      exact h
    cases w with
    | false =>
      refine g_X5_take_21 (Ru_of hb) ⟨fun _ => (e_join (d := d) hb w0 f0 C0 hl hd hc).to ?_, fun q => absurd (C0.1.trans (if_neg (by decide))) q⟩
      rintro r m1 ⟨v, rfl, bv, h⟩
      exact ⟨v, rfl, bv, v, rfl, up v m1 h⟩
    | true =>
      refine g_X5_take_21 (Ru_of hb) ⟨fun q => absurd ((C0.1.trans (if_pos rfl)).symm.trans q) (by decide), fun _ => (e_thing (d := d + 1) hb w0 f0 C0 hl hd).to ?_⟩
      rintro r m1 ⟨v, rfl, bv, h⟩
      exact ⟨v, rfl, bv, v, rfl, up v m1 h⟩
  refine v_X5_take (d := d + 2) (Ru_of hb) ⟨fun q => g21 (fun z => ?_), fun q => ⟨fun q2 => g21 (fun z => ?_), fun q2 => ?_⟩⟩
  · have := z_lt q
    have := z_le z.1
    omega
  · have := z_lt q2
    have := z_le z.2
    omega
  · have hd : isDg c := ⟨(fa_le _ _).mpr (z_nlt q), (fa_le _ _).mpr (z_nlt q2)⟩
    refine (e_digit (d := d + 1) hb wt f C hl hd).to ?_
    rintro r m1 ⟨v, rfl, bv, h⟩
    exact ⟨v, rfl, bv, v, rfl, h⟩
/-- the code as it stands in b0, its last first -/
def CodeX (b0 : Nat) (cl : List Int32) (m : Wm) : Prop := m.1 b0 4 = nI cl.length ∧ LCel m (b0 + 1) cl ∧ cl.length ≤ 40
def rcR (b0 : Nat) (m : Wm) (O : Nat ⊕ XS) (r : Option Value) (m' : Wm) : Prop := WT m' ∧ Fx (RB b0) m m' ∧ (∀ q, O = .inl q → r = some (.int (nI q)) ∧ q ≤ 40) ∧ ∀ S, O = .inr S → r = some (.int (-1)) ∧ XC b0 (relL 1 S.2.2 S.2.1).1 (relL 1 S.2.2 S.2.1).2 m' ∧ (relL 1 S.2.2 S.2.1).1.length ≤ 40 ∧ (relL 1 S.2.2 S.2.1).1 ≠ []
theorem minT_40 {t : Nat} (ht : t ≤ 80) : (if (40 : Int32) < nI t then (40 : Int32) else nI t) = nI (minT t 40) := by
  unfold minT
  by_cases h : t < 40
  · rw [if_neg (fun q => by have := (lt_l 40 40 rfl (by decide) (by omega)).mp q; omega), if_pos h]
  · rw [if_neg h]
    by_cases h2 : 40 < t
    · rw [if_pos ((lt_l 40 40 rfl (by decide) (by omega)).mpr h2)]
      rfl
    · have : t = 40 := by omega
      rw [if_neg (fun q => h2 ((lt_l 40 40 rfl (by decide) (by omega)).mp q)), this]
theorem e_comp5 {t : Nat} (hb : b0 = 5 ∨ b0 = 10) (wt : WT m) (ht : m.1 1 1 = nI t) (ht80 : t ≤ 80) (ht0 : t ≠ 0) (hch : ∀ k, k < t → (m.1 2 k).toInt ≤ 255) : Ct ad μX5_compile (d + 4) [.ref (ad b0), .ref (ad 1)] m (rcR b0 m (MO xst xok (m.1 2) (decide (40 < t)) (minT t 40) 0 ((true, 0, [false]), [], []))) := by
  generalize hO0 : MO xst xok (m.1 2) (decide (40 < t)) (minT t 40) 0 ((true, 0, [false]), [], []) = O
  have e40 : minT t 40 ≤ 40 := by unfold minT; split <;> omega
  have et : minT t 40 ≤ t := by unfold minT; split <;> omega
  have L : ∀ (k p : Nat) (S : XS) (m1 : Wm), minT t 40 - p < k → p ≤ minT t 40 → S.2.1.length + S.2.2.length ≤ p → WT m1 → Fx (RB b0) m m1 → RX b0 S m1 → MO xst xok (m.1 2) (decide (40 < t)) (minT t 40 - p) p S = O →
      AW ad E0 μX5_compile (d + 3 + 1) (rcR b0 m O) 53 [(0, .ref (ad b0)), (1, .ref (ad 1)), (2, .int (nI (minT t 40))), (3, .int (nI p))] [] m1 := by
    intro k
    induction k with
    | zero => intros; omega
    | succ k ih =>
      intro p S m1 hk hp hln w1 f1 C hO
      obtain ⟨⟨w, dg, fs⟩, cd, wl⟩ := S
      dsimp only at hln
      have C1 := C
      obtain ⟨c8, c7, dg3, c4, X, D, h1, h2, h6, hfl⟩ := C
      have t1 : m1.1 1 1 = nI t := (f1.at (a := 1) (k := 1) (by unfold RB; omega)).trans ht
      have t2 : ∀ k, m1.1 2 k = m.1 2 k := fun k => f1.at (a := 2) (k := k) (by unfold RB; omega)
      refine g_X5_compile_53 (Ru_of hb) ⟨fun c => ?_, fun c => ?_⟩
      · have hpe : p = minT t 40 := by have := (nI_leI (a := minT t 40) (b := p) (by omega) (by omega)).mp c; omega
        rw [t1, c8, h6]
        rw [show minT t 40 - p = 0 by omega] at hO
        have bad : O = .inl p → rcR b0 m O (some (.int (nI (minT t 40)))) m1 := fun h => ⟨w1, f1, fun q2 h2 => (by rw [h] at h2; cases h2; exact ⟨by rw [hpe], by omega⟩), fun S2 h2 => (by rw [h] at h2; cases h2)⟩
        refine ⟨fun q => bad ?_, fun q => ⟨fun q8 => bad ?_, fun q8 => ⟨fun q6 => ?_, fun q6 => bad ?_⟩⟩⟩
        · have hb : decide (40 < t) = true := decide_eq_true ((lt_l 40 40 rfl (by decide) (by omega)).mp q)
          rw [← hO]
          exact MO_n (by rw [hb]; exact fun z => absurd z.1 (by decide))
        · have hw : w = true := by
            cases w with
            | true => rfl
            | false => exact absurd (if_neg (by decide)) q8
          rw [← hO]
          refine MO_n (fun z => ?_)
          have := (of_decide_eq_true z.2).1
          rw [hw] at this
          exact absurd this (by decide)
        · have hw : w = false := by
            cases w with
            | false => rfl
            | true => rw [if_pos rfl] at q8; exact absurd q8 (by decide)
          have hD : D = 0 := by
            have := (nI_leI (a := D) (b := 0) (by omega) (by omega)).mp q6
            omega
          have hbg : decide (40 < t) = false := decide_eq_false (fun z => q ((lt_l 40 40 rfl (by decide) (by omega)).mpr z))
          have hok : xok ((w, dg, fs), cd, wl) = true := decide_eq_true ⟨hw, by omega⟩
          rw [MO_e ⟨hbg, hok⟩] at hO
          refine (e_relK (d := d + 2) (m0 := m1) (r := 1) hb w1 Fx.rf X (by omega) (by decide)).to ?_
          rintro _ m2 ⟨rfl, w2, f2, X2⟩
          exact ⟨rfl, w2, f1.tr f2 RK_B, fun q2 h2 => (by rw [h2] at hO; cases hO), fun S e => (by rw [e] at hO; cases hO; exact ⟨rfl, X2, by have := relL_len (r := 1) wl cd; dsimp only; omega, by dsimp only; exact relL_ne _ _ (c4 hw)⟩)⟩
        · have hD : D ≠ 0 := fun z => q6 (by rw [z]; exact (nI_leI (a := 0) (b := 0) (by omega) (by omega)).mpr (Nat.le_refl _))
          rw [← hO]
          refine MO_n (fun z => ?_)
          have := (of_decide_eq_true z.2).2
          omega
      · have hpe : p < minT t 40 := Nat.lt_of_not_le (fun z => c ((nI_leI (a := minT t 40) (b := p) (by omega) (by omega)).mpr z))
        rw [nI_clamp (by omega), t2]
        refine ⟨nat_in (by omega) (by decide), (e_take5 (d := d) (m0 := m) hb w1 f1 C1 (by omega) (hch p (by omega))).to ?_⟩
        rintro r m2 ⟨v, rfl, w2, f2, h⟩
        rcases h with ⟨hv, S2, e2, hS2⟩ | ⟨hv, e2⟩
        · cases hv
          rw [MO_ss hpe e2] at hO
          refine ⟨1, rfl, fun _ => ?_, fun z => absurd z (by decide)⟩
          rw [nI_1]
          exact ih (p + 1) S2 m2 (by omega) (by omega) (by have := xst_len e2; dsimp only at this; omega) w2 f2 hS2 hO
        · cases hv
          rw [ep_s hpe, MO_f e2] at hO
          refine ⟨0, rfl, fun z => absurd rfl z, fun _ => ⟨w2, f2, fun q2 h2 => ?_, fun S2 h2 => ?_⟩⟩
          · rw [h2] at hO; cases hO; exact ⟨rfl, by omega⟩
          · rw [h2] at hO; cases hO
  have e00 : (0 : Int32).toNatClampNeg = 0 := rfl
  have eb : vp_nar .boolean (0 : Int32) = 0 := rfl
  refine v_X5_compile (d := d + 3) (Ru_of hb) ?_
  rw [e00, eb]
  have wm : WT (uI (uI (uI (uI (uI (uI m b0 4 (0 : Int32)) b0 5 (0 : Int32)) b0 6 (0 : Int32)) b0 7 (0 : Int32)) b0 8 (1 : Int32)) (b0 + 4) 0 (0 : Int32)) := wRf hb (wR_n hb (wR_n hb (wR_6 hb (wR_5 hb (wR_4 hb wt (by decide) (by decide)) (by decide) (by decide)) (by decide) (by decide)) (Or.inl rfl)) (Or.inr rfl))
  have fm : Fx (RB b0) m (uI (uI (uI (uI (uI (uI m b0 4 (0 : Int32)) b0 5 (0 : Int32)) b0 6 (0 : Int32)) b0 7 (0 : Int32)) b0 8 (1 : Int32)) (b0 + 4) 0 (0 : Int32)) := fRa hb (fR hb (fR hb (fR hb (fR hb (fR hb Fx.rf (by omega)) (by omega)) (by omega)) (by omega)) (by omega)) (Or.inr (Or.inr rfl))
  have C0 : RX b0 ((true, 0, [false]), [], []) (uI (uI (uI (uI (uI (uI m b0 4 (0 : Int32)) b0 5 (0 : Int32)) b0 6 (0 : Int32)) b0 7 (0 : Int32)) b0 8 (1 : Int32)) (b0 + 4) 0 (0 : Int32)) := ⟨(u_ne (by omega)).trans u_eq, (u_ne (by omega)).trans ((u_ne (by omega)).trans u_eq), by decide, fun z => absurd z (by decide), ⟨(u_ne (by omega)).trans ((u_ne (by omega)).trans ((u_ne (by omega)).trans ((u_ne (by omega)).trans ((u_ne (by omega)).trans u_eq)))), fun i hi => absurd hi (Nat.not_lt_zero i), (u_ne (by omega)).trans ((u_ne (by omega)).trans ((u_ne (by omega)).trans ((u_ne (by omega)).trans u_eq))), fun i hi => absurd hi (Nat.not_lt_zero i)⟩, 0, rfl, by decide, (u_ne (by omega)).trans ((u_ne (by omega)).trans ((u_ne (by omega)).trans u_eq)), fun i hi => by
    have : i = 0 := by omega
    subst this
    exact u_eq⟩
  generalize uI (uI (uI (uI (uI (uI m b0 4 (0 : Int32)) b0 5 (0 : Int32)) b0 6 (0 : Int32)) b0 7 (0 : Int32)) b0 8 (1 : Int32)) (b0 + 4) 0 (0 : Int32) = m1 at wm fm C0 ⊢
  have h11 : m1.1 1 1 = nI t := (fm.at (a := 1) (k := 1) (by unfold RB; omega)).trans ht
  rw [h11]
  refine ⟨fun _ => ?_, fun q => absurd ((nI_eq (a := t) (b := 0) (by omega) (by decide)).mp q) ht0⟩
  rw [minT_40 ht80]
  exact L 81 0 ((true, 0, [false]), [], []) m1 (by omega) (Nat.zero_le _) (Nat.le_refl _) wm fm C0 hO0
end RCV
