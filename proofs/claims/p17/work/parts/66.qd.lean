/-! plan(): THE MODEL -/
section PMM
variable {ad : Nat → Nat} {d : Nat} {m : Wm}
/-- how the model's plan() ends: rounds, games, the row, the place, the fault -/
def plM (m : Wm) (t r' g' : Nat) (np' : Nat → Int32) (p' : Nat) (w' : Int32) (r : Option Value) (m' : Wm) : Prop := WT m' ∧ Fx (RS [20, 21, 22, 25, 27, 52, 55]) m m' ∧ (m'.1 187 14).toInt = 0 ∧
  (w' ≠ -1 → r = some (.int (-1 - w')) ∧ Fx (RS [20, 21, 22, 27]) m m') ∧ (w' = -1 → p' < t → r = some (.int (-1 - nI p')) ∧ Fx (RS [20, 21, 22, 27]) m m') ∧
  (w' = -1 → ¬ p' < t → r = some (.int (nI r')) ∧ m'.1 187 10 = nI g' ∧ m'.1 187 11 = nI r' ∧ m'.1 187 12 = 0 ∧ r' ≤ 12 ∧ g' ≤ 40 ∧ (r' = 0 ∨ 1 ≤ g') ∧ ∀ k, k < 4 * g' → m'.1 194 k = np' k)
theorem e_planM {n t : Nat} (w : WT m) (hn : m.1 187 1 = nI n) (hn8 : n ≤ 8) (ht : m.1 187 14 = nI t) (ht80 : t ≤ 80) : Ct ad μX12_plan (d + 5) [.ref (ad 187)] m (fun r m' => ∃ r' g' np' p' w', (t ≠ 0 → rdF (m.1 195) (minT t 76) n 13 0 0 (m.1 199) (0, -1) = (r', g', np', (p', w'))) ∧ (t = 0 → r' = 0 ∧ g' = 0 ∧ p' = 0 ∧ w' = -1) ∧ plM m t r' g' np' p' w' r m') := by
  generalize hQ : (fun (r : Option Value) (m' : Wm) => ∃ r' g' np' p' w', (t ≠ 0 → rdF (m.1 195) (minT t 76) n 13 0 0 (m.1 199) (0, -1) = (r', g', np', (p', w'))) ∧ (t = 0 → r' = 0 ∧ g' = 0 ∧ p' = 0 ∧ w' = -1) ∧ plM m t r' g' np' p' w' r m') = Q
  have w0 : WT (uI m 187 17 0) := w.n rfl
  have A := pa_text (n := t) (t := 76) (by omega) (by decide)
  have he80 : minT t 76 ≤ 80 := by unfold minT; split <;> omega
  refine v_X12_plan (d := d + 4) ((begin_ok (na := 80) rfl).to ?_)
  rintro _ m1 ⟨rfl, e1⟩
  have e1' : m1 = bgM (uI m 187 17 0) 195 (nI t) (nI 76) := by rw [e1]; show _ = bgM _ _ (nI t) _; rw [← ht]; rfl
  subst e1'
  clear e1
  have f1 : Fx (RS [22]) (uI m 187 17 0) (bgM (uI m 187 17 0) 195 (nI t) (nI 76)) := bg_fx
  have P1 : PS 195 t 76 (minT t 76) ((uI m 187 17 0).1 195) 0 (-1) (bgM (uI m 187 17 0) 195 (nI t) (nI 76)) := bg_ps he80 (by decide)
  have w1 := w0.fx f1
  have F1 : Fx (RS [20, 21, 22, 27]) m (bgM (uI m 187 17 0) 195 (nI t) (nI 76)) := ((Fx.rf (S := RS [20, 21, 22, 27]) (m := m)).i (a := 187) (k := 17) (v := 0) rfl).tr f1 (RS_sub rfl)
  have c199 : (bgM (uI m 187 17 0) 195 (nI t) (nI 76)).1 199 = m.1 199 := rfl
  generalize bgM (uI m 187 17 0) 195 (nI t) (nI 76) = mb at f1 P1 w1 F1 c199 ⊢
  have w2 : WT (uI mb 187 14 0) := w1.t rfl (by decide) (by decide)
  have P2 : PS 195 t 76 (minT t 76) (m.1 195) 0 (-1) (uI mb 187 14 0) := by
    obtain ⟨b1, b2, b3, b4, b5, b6, b7⟩ := P1
    exact ⟨b1, b2, b3, b4, b5, b6, fun k hk => b7 k hk⟩
  have F2 : Fx (RS [20, 21, 22, 27]) m (uI mb 187 14 0) := F1.i rfl
  have z14 : ((uI mb 187 14 0).1 187 14).toInt = 0 := rfl
  have h01 : (uI mb 187 14 0).1 187 1 = nI n := (F2.at (a := 187) (k := 1) (by decide)).trans hn
  have h19 : (uI mb 187 14 0).1 187 19 = nI t := P2.2.1
  have d199 : (uI mb 187 14 0).1 199 = m.1 199 := c199
  generalize uI mb 187 14 0 = mc at w2 P2 F2 z14 h01 h19 d199 ⊢
  refine ⟨rfl, ?_⟩
  have fin : ∀ (m' : Wm) (r' g' : Nat) (np' : Nat → Int32) (p' : Nat) (w' : Int32), (t ≠ 0 → rdF (m.1 195) (minT t 76) n 13 0 0 (m.1 199) (0, -1) = (r', g', np', (p', w'))) → (t = 0 → r' = 0 ∧ g' = 0 ∧ p' = 0 ∧ w' = -1) → PS 195 t 76 (minT t 76) (m.1 195) p' w' m' → m'.1 199 = np' → Fx (RS [22, 27]) mc m' → WT m' → (w' = -1 → r' ≤ 12 ∧ (r' = 0 ∨ 1 ≤ g')) → g' ≤ 40 → r' ≤ 13 →
      AW ad E0 μX12_plan (d + 4 + 1) Q 238 [(0, .ref (ad 187)), (1, .int (nI r')), (2, .int (nI g'))] [] m' := by
    intro m' r' g' np' p' w' hR hR0 h cnp f wt hw hg hr
    have up : ∀ r m3, plM m t r' g' np' p' w' r m3 → Q r m3 := fun r m3 hh => by
      rw [← hQ]
      exact ⟨r', g', np', p', w', hR, hR0, hh⟩
    have G2 : Fx (RS [20, 21, 22, 27]) m m' := F2.tr f (RS_sub rfl)
    have cp : w' = -1 → ¬ p' < t → r' ≤ 12 → (r' = 0 ∨ 1 ≤ g') → ∀ (j x4 : Nat) (m3 : Wm), x4 + j = 4 * g' → WT m3 → Fx (RS [20, 21, 22, 25, 27, 52, 55]) m m3 → (m3.1 187 14).toInt = 0 → m3.1 199 = np' → (∀ k, k < x4 → m3.1 194 k = np' k) → AW ad E0 μX12_plan (d + 4 + 1) Q 274 [(0, .ref (ad 187)), (1, .int (nI r')), (2, .int (nI g')), (4, .int (nI x4))] [] m3 := by
      intro hwm hpt hr12 hrg j
      have l4 : (4 : Int32) * nI g' = nI (4 * g') := l_mul 4 4 rfl g'
      have tr' : (nI r').toInt = (r' : Int) := nI_toInt (by omega)
      have tg' : (nI g').toInt = (g' : Int) := nI_toInt (by omega)
      induction j with
      | zero =>
        intro x4 m3 hx wt3 f3 h14 c3 hc
        obtain rfl : x4 = 4 * g' := hx
        refine g_X12_plan_274 ?_
        rw [l4]
        refine ⟨fun _ => up _ _ ⟨((wt3.t rfl (by omega) (by omega)).t rfl (by omega) (by omega)).n rfl, ((f3.i rfl).i rfl).i rfl, h14, fun q => absurd hwm q, fun _ q => absurd q hpt, fun _ _ => ⟨rfl, rfl, rfl, rfl, hr12, hg, hrg, fun k hk => hc k hk⟩⟩, fun c => absurd ((nI_leI (by omega) (by omega)).mpr (by omega)) c⟩
      | succ j ih =>
        intro x4 m3 hx wt3 f3 h14 c3 hc
        refine g_X12_plan_274 ?_
        rw [l4, nI_1, nI_clamp (by omega)]
        refine ⟨fun c => absurd ((nI_leI (by omega) (by omega)).mp c) (by omega), fun _ => ⟨nat_in (by omega) (by decide), nat_in (by omega) (by decide), ?_⟩⟩
        refine ih (x4 + 1) _ (by omega) ?_ (f3.i rfl) h14 ((uI_cell (by decide)).trans c3) (fun k hk => ?_)
        · by_cases hx4 : x4 % 4 < 2
          · have e9 : TY 199 x4 = some (0, 7) := if_pos hx4
            have e4 : TY 194 x4 = some (0, 7) := if_pos hx4
            have := wt3.at e9
            exact wt3.t e4 this.1 this.2
          · exact wt3.n (if_neg hx4)
        · by_cases hk4 : k = x4
          · subst hk4
            rw [u_eq, c3]
          · exact (u_ne (fun q => hk4 q.2)).trans (hc k (by omega))
    have ps22 : ∀ m3, Fx (RS [22]) m' m3 → m3.1 199 = np' := fun m3 f3 => (fx_cell (ρ := 27) f3 (fun _ => rfl) rfl).trans cnp
    have e257 : ∀ (m3 : Wm) (w3 : Int32), PS 195 t 76 (minT t 76) (m.1 195) p' w3 m3 → Fx (RS [22]) m' m3 → WT m3 → ((w3 = -1 ∧ w' = -1 ∧ ¬ p' < t) ∨ (w3 ≠ -1 ∧ w' = w3) ∨ (w3 = nI p' ∧ w' = -1 ∧ p' < t)) → AW ad E0 μX12_plan (d + 4 + 1) Q 257 [(0, .ref (ad 187)), (1, .int (nI r')), (2, .int (nI g'))] [] m3 := by
      intro m3 w3 h3 f3 wt3 hc
      have G3 : Fx (RS [20, 21, 22, 27]) m m3 := G2.tr f3 (RS_sub rfl)
      have G4 : Fx (RS [20, 21, 22, 25, 27, 52, 55]) m m3 := (Fx.rf (S := RS [20, 21, 22, 25, 27, 52, 55])).tr G3 (RS_sub rfl)
      have e14 : (m3.1 187 14).toInt = 0 := by rw [f3.at (a := 187) (k := 14) (by decide), f.at (a := 187) (k := 14) (by decide)]; exact z14
      have h80 := h3.small A
      refine g_X12_plan_257 ((fine_ok h3).to ?_)
      rintro _ m' ⟨eq, rfl⟩
      obtain rfl := eq.symm
      rcases hc with ⟨c1, c2, c3⟩ | ⟨c1, c2⟩ | ⟨c1, c2, c3⟩
      · refine ⟨1, by rw [if_pos c1], fun _ => ?_, fun c => absurd c (by decide)⟩
        have := hw c2
        exact cp c2 c3 this.1 this.2 (4 * g') 0 m3 (by omega) wt3 G4 e14 (ps22 m3 f3) (fun k hk => absurd hk (Nat.not_lt_zero k))
      · have e22 : m3.1 187 22 = w3 := h3.2.2.2.2.1
        refine ⟨0, by rw [if_neg c1], fun c => absurd rfl c, fun _ => up _ _ ⟨wt3, G4, e14, fun _ => ⟨by rw [e22, c2], G3⟩, fun q => absurd (c2.symm.trans q) c1, fun q => absurd (c2.symm.trans q) c1⟩⟩
      · have e22 : m3.1 187 22 = w3 := h3.2.2.2.2.1
        have c1' : w3 ≠ -1 := fun q => m1_ne p' (by omega) (q.symm.trans c1)
        refine ⟨0, by rw [if_neg c1'], fun c => absurd rfl c, fun _ => up _ _ ⟨wt3, G4, e14, fun q => absurd c2 q, fun _ _ => ⟨by rw [e22, c1], G3⟩, fun _ q => absurd c3 q⟩⟩
    refine g_X12_plan_238 ⟨fun c => e257 m' w' h Fx.rf wt ?_, fun c => (fault_ok A h).to ?_⟩
    · rw [h.2.1, h.2.2.2.1] at c
      have h80 := h.small A
      have c' := (nI_leI (a := t) (b := p') (by omega) (by omega)).mp c
      by_cases hwm : w' = -1
      · exact Or.inl ⟨hwm, hwm, by omega⟩
      · exact Or.inr (Or.inl ⟨hwm, rfl⟩)
    · rw [h.2.1, h.2.2.2.1] at c
      have h80 := h.small A
      have c' : p' < t := Nat.lt_of_not_le (fun q => c ((nI_leI (a := t) (b := p') (by omega) (by omega)).mpr q))
      rintro _ m3 ⟨rfl, h3, f3⟩
      refine ⟨rfl, ?_⟩
      by_cases hwm : w' = -1
      · have e1 : (fltF (m'.1 187 21) (p', w')).2 = nI p' := by
          unfold fltF
          rw [if_pos hwm]
          exact h.2.2.2.1
        rw [e1] at h3
        exact e257 m3 _ h3 f3 (wt.fx f3) (Or.inr (Or.inr ⟨rfl, hwm, c'⟩))
      · rw [flt_d hwm] at h3
        exact e257 m3 _ h3 f3 (wt.fx f3) (Or.inr (Or.inl ⟨hwm, rfl⟩))
  rw [h19]
  refine ⟨fun q => ?_, fun q => ?_⟩
  · have ht0 : t = 0 := by
      by_cases h0 : t = 0
      · exact h0
      · exact absurd q (fun z => nI_nle (by omega) (by omega) z)
    exact g_X12_plan_41 ⟨fun _ => fin mc 0 0 (m.1 199) 0 (-1) (fun z => absurd ht0 z) (fun _ => ⟨rfl, rfl, rfl, rfl⟩) P2 d199 Fx.rf w2 (fun _ => ⟨by decide, Or.inl rfl⟩) (by decide) (by decide), fun c => absurd rfl c⟩
  · have ht0 : t ≠ 0 := fun z => q (by rw [z]; decide)
    exact rd_ok A (n := n) hn8 (by decide) (m0 := mc) h01 13 0 0 (m.1 199) 0 (-1) mc (by decide) (by decide) (fun _ => ⟨by decide, Or.inl rfl⟩) (by decide) P2 d199 Fx.rf w2 (fun m' r' g' np' p' w' hR h c f wt hw hg hr => fin m' r' g' np' p' w' (fun _ => hR) (fun z => absurd z ht0) h c f wt hw hg hr)
end PMM
