/-! THE RULE: whether the model takes it -/
section RUE
variable {ad : Nat → Nat} {d : Nat} {m : Wm}
def ruM (m : Wm) (t : Nat) (X : Sp) (r : Option Value) (m' : Wm) : Prop := WT m' ∧ Fx (RS [20, 21, 22, 48, 28]) m m' ∧ (m'.1 187 14).toInt = 0 ∧
  (t ≠ 0 → X.2 ≠ -1 → r = some (.int (-1 - X.2)) ∧ Fx (RS [20, 21, 22, 28]) m m') ∧ (t ≠ 0 → X.2 = -1 → X.1 < t → r = some (.int (-1 - nI X.1)) ∧ Fx (RS [20, 21, 22, 28]) m m') ∧ ((t = 0 ∨ (X.2 = -1 ∧ ¬ X.1 < t)) → r = some (.int 0) ∧ m'.1 187 27 = nI t ∧ ∀ k, k < t → m'.1 200 k = vp_nar .byte (m.1 195 k))
theorem e_ruleM {t : Nat} (w : WT m) (ht : m.1 187 14 = nI t) (ht80 : t ≤ 80) : Ct ad μX12_rule (d + 168) [.ref (ad 187)] m (ruM m t (prF (m.1 195) (minT t 40) (fun _ => 0) 164 3 0 (0, -1)).2) := by
  have w0 : WT (uI m 187 17 0) := w.n rfl
  have A := pa_text (n := t) (t := 40) (by omega) (by decide)
  have he40 : minT t 40 ≤ 40 := by unfold minT; split <;> omega
  refine v_X12_rule (d := d + 167) ((begin_ok (na := 80) rfl).to ?_)
  rintro _ m1 ⟨rfl, e1⟩
  have ety' : (uI m 187 17 0).1 187 14 = nI t := ht
  rw [ety'] at e1 ⊢
  have e1' : m1 = bgM (uI m 187 17 0) 195 (nI t) (nI 40) := e1
  subst e1'
  clear e1
  have f1 : Fx (RS [22]) (uI m 187 17 0) (bgM (uI m 187 17 0) 195 (nI t) (nI 40)) := bg_fx
  have P1 : PS 195 t 40 (minT t 40) ((uI m 187 17 0).1 195) 0 (-1) (bgM (uI m 187 17 0) 195 (nI t) (nI 40)) := bg_ps (by omega) (by decide)
  have w1 := w0.fx f1
  generalize bgM (uI m 187 17 0) 195 (nI t) (nI 40) = mb at f1 P1 w1 ⊢
  have w2 : WT (uI (uI mb 187 14 0) 187 28 (-1)) := (w1.t rfl (by decide) (by decide)).t rfl (by decide) (by decide)
  have P2 : PS 195 t 40 (minT t 40) (m.1 195) 0 (-1) (uI (uI mb 187 14 0) 187 28 (-1)) := by
    obtain ⟨b1, b2, b3, b4, b5, b6, b7⟩ := P1
    exact ⟨b1, b2, b3, b4, b5, b6, fun k hk => b7 k hk⟩
  have F2 : Fx (RS [20, 21, 22, 28]) m (uI (uI mb 187 14 0) 187 28 (-1)) := ((((Fx.rf (S := RS [20, 21, 22, 28]) (m := m)).i (a := 187) (k := 17) (v := 0) rfl).tr f1 (RS_sub rfl)).i rfl).i rfl
  have z14 : ((uI (uI mb 187 14 0) 187 28 (-1)).1 187 14).toInt = 0 := rfl
  have En : EN ad (fun _ => 0) (uI (uI mb 187 14 0) 187 28 (-1)) := Or.inl ⟨rfl, fun _ => rfl⟩
  generalize uI (uI mb 187 14 0) 187 28 (-1) = mc at w2 P2 F2 z14 En ⊢
  have cp : ∀ X : Sp, (t = 0 ∨ (X.2 = -1 ∧ ¬ X.1 < t)) → t ≤ 40 → ∀ (j x2 : Nat) (m3 : Wm), x2 + j = t → WT m3 → Fx (RS [20, 21, 22, 48, 28]) m m3 → (m3.1 187 14).toInt = 0 → (∀ k, k < t → m3.1 195 k = m.1 195 k) → (∀ k, k < x2 → m3.1 200 k = vp_nar .byte (m.1 195 k)) → AW ad E0 μX12_rule (d + 167 + 1) (ruM m t X) 73 [(0, .ref (ad 187)), (1, .int (nI t)), (2, .int (nI x2))] [] m3 := by
    intro X hX h40 j
    have tt : (nI t).toInt = (t : Int) := nI_toInt (by omega)
    induction j with
    | zero =>
      intro x2 m3 hx wt3 f3 h14 h195 h200
      refine g_X12_rule_73 ⟨fun _ => ⟨wt3.t rfl (by omega) (by omega), f3.i rfl, h14, fun h0 h1 => ?_, fun h0 h1 h2 => ?_, fun _ => ⟨rfl, rfl, fun k hk => h200 k (by omega)⟩⟩, fun c => absurd ((nI_leI (by omega) (by omega)).mpr (by omega)) c⟩
      · exact (hX.elim (fun q => h0 q) (fun q => h1 q.1)).elim
      · exact (hX.elim (fun q => h0 q) (fun q => q.2 h2)).elim
    | succ j ih =>
      intro x2 m3 hx wt3 f3 h14 h195 h200
      refine g_X12_rule_73 ⟨fun c => absurd ((nI_leI (by omega) (by omega)).mp c) (by omega), fun _ => ⟨nat_in (by omega) (by decide), nat_in (by omega) (by decide), ?_⟩⟩
      rw [nI_1, nI_clamp (by omega)]
      refine ih (x2 + 1) _ (by omega) (wt3.n rfl) (f3.i rfl) h14 (fun k hk => h195 k hk) (fun k hk => ?_)
      by_cases hk2 : k = x2
      · rw [hk2]
        exact u_eq.trans (congrArg (vp_nar .byte) (h195 x2 (by omega)))
      · exact (u_ne (fun q => hk2 q.2)).trans (h200 k (by omega))
  refine ⟨rfl, fun c => ?_, fun c => ?_⟩
  · have h0 : t = 0 := by
      have := (nI_leI (a := t) (b := 0) (by omega) (by omega)).mp c
      omega
    subst h0
    exact cp _ (Or.inl rfl) (by decide) 0 0 mc rfl w2 (Fx.tr Fx.rf F2 (RS_sub rfl)) z14 (fun k hk => absurd hk (Nat.not_lt_zero k)) (fun k hk => absurd hk (Nat.not_lt_zero k))
  · have h0 : t ≠ 0 := fun q => by
      subst q
      exact c ((nI_leI (a := 0) (b := 0) (by omega) (by omega)).mpr (Nat.le_refl _))
    refine ((rul_ok (d := d) A 164).2.2.2 0 (by decide) 0 (-1) mc P2 En (by omega)).to ?_
    rintro _ m2 ⟨rfl, h2, -, f2⟩
    have F3 := F2.tr f2 (RS_sub rfl)
    have wt2 := w2.fx f2
    generalize prF (m.1 195) (minT t 40) (fun _ => 0) 164 3 0 (0, -1) = R at h2 ⊢
    obtain ⟨v, q, u⟩ := R
    dsimp only at h2 ⊢
    have hqe : q ≤ minT t 40 := h2.2.2.2.2.2.1
    have e57 : ∀ (m3 : Wm) (w3 : Int32), PS 195 t 40 (minT t 40) (m.1 195) q w3 m3 → Fx (RS [22]) m2 m3 → (w3 = -1 → u = -1 ∧ t ≤ q) → (w3 ≠ -1 → (u ≠ -1 ∧ w3 = u) ∨ (u = -1 ∧ q < t ∧ w3 = nI q)) → AW ad E0 μX12_rule (d + 167 + 1) (ruM m t (q, u)) 57 [(0, .ref (ad 187)), (1, .int (nI t))] [] m3 := by
      intro m3 w3 h3 f3 hw hn
      have F4 := F3.tr f3 (RS_sub rfl)
      have wt3 := wt2.fx f3
      have e14 : (m3.1 187 14).toInt = 0 := by rw [f3.at (a := 187) (k := 14) (by decide), f2.at (a := 187) (k := 14) (by decide)]; exact z14
      refine g_X12_rule_57 ((fine_ok h3).to ?_)
      rintro _ m' ⟨eq, rfl⟩
      obtain rfl := eq.symm
      by_cases hq : w3 = -1
      · obtain ⟨hu, htq⟩ := hw hq
        exact ⟨1, by rw [if_pos hq], fun _ => cp (q, u) (Or.inr ⟨hu, by dsimp only; omega⟩) (by omega) t 0 m3 (by omega) wt3 (Fx.tr Fx.rf F4 (RS_sub rfl)) e14 (fun k hk => h3.2.2.2.2.2.2 k (by have hmt : minT t 40 = t := (by unfold minT; split <;> omega); omega)) (fun k hk => absurd hk (Nat.not_lt_zero k)), fun c => absurd c (by decide)⟩
      · have h22 : m3.1 187 22 = w3 := h3.2.2.2.2.1
        refine ⟨0, by rw [if_neg hq], fun c => absurd rfl c, fun _ => ⟨wt3, Fx.tr Fx.rf F4 (RS_sub rfl), e14, fun _ hu => ⟨?_, F4⟩, fun _ hu hlt => ⟨?_, F4⟩, fun hh => ?_⟩⟩
        · rcases hn hq with ⟨-, e⟩ | ⟨hu2, -⟩
          · rw [h22, e]
          · exact absurd hu2 hu
        · rcases hn hq with ⟨hu2, -⟩ | ⟨-, -, e⟩
          · exact absurd hu hu2
          · rw [h22, e]
        · rcases hh with hh | ⟨hu, hge⟩
          · exact absurd hh h0
          · rcases hn hq with ⟨hu2, -⟩ | ⟨-, hlt, -⟩
            · exact absurd hu hu2
            · exact absurd hlt hge
    have h21 : m2.1 187 21 = nI q := h2.2.2.2.1
    refine ⟨v, rfl, fun c => ?_, fun c => ?_⟩
    · rw [h21] at c
      have hle := (nI_leI (a := t) (b := q) (by omega) (by omega)).mp c
      exact e57 m2 u h2 Fx.rf (fun hu => ⟨hu, hle⟩) (fun hu => Or.inl ⟨hu, rfl⟩)
    · rw [h21] at c ⊢
      have hlt : q < t := Nat.lt_of_not_le (fun z => c ((nI_leI (by omega) (by omega)).mpr z))
      refine (fault_ok A h2).to ?_
      rintro _ m3 ⟨rfl, h3, f3⟩
      refine ⟨rfl, e57 m3 _ h3 f3 (fun z => (flt_2 (p := _) (w := u) z (by omega)).elim) (fun _ => ?_)⟩
      by_cases hu : u = -1
      · exact Or.inr ⟨hu, hlt, congrArg Prod.snd (if_pos hu)⟩
      · exact Or.inl ⟨hu, congrArg Prod.snd (if_neg hu)⟩
end RUE
