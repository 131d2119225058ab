/-! THE RULE, THE LEAGUE (model) -/
section RUM
variable {ad : Nat → Nat} {d : Nat} {m : Wm}
def tqQ (S : List Nat) (m : Wm) (r : Option Value) (m' : Wm) : Prop := WT m' ∧ Fx (RS S) m m' ∧ (∃ v : Int32, r = some (.int v)) ∧ (m'.1 187 14).toInt = 0
theorem s_X12_rule (w : WT m) : Ct ad μX12_rule (d + 168) [.ref (ad 187)] m (tqQ [20, 21, 22, 48, 28] m) := by
  obtain ⟨ty, ety, -, y1, y2, y3⟩ := w.nat (a := 187) (k := 14) rfl (by decide)
  have w0 : WT (uI m 187 17 0) := w.n rfl
  have A := pa_text (n := ty) (t := 40) (by omega) (by decide)
  have he40 : minT ty 40 ≤ 40 := by unfold minT; split <;> omega
  refine v_X12_rule (d := d + 167) ((begin_ok (na := 80) rfl).to ?_)
  rintro _ m1 ⟨rfl, e1⟩
  have ety' : (uI m 187 17 0).1 187 14 = nI ty := ety
  rw [ety'] at e1 ⊢
  have e1' : m1 = bgM (uI m 187 17 0) 195 (nI ty) (nI 40) := e1
  subst e1'
  clear e1
  have f1 : Fx (RS [22]) (uI m 187 17 0) (bgM (uI m 187 17 0) 195 (nI ty) (nI 40)) := bg_fx
  have P1 : PS 195 ty 40 (minT ty 40) ((uI m 187 17 0).1 195) 0 (-1) (bgM (uI m 187 17 0) 195 (nI ty) (nI 40)) := bg_ps (by omega) (by decide)
  have w1 := w0.fx f1
  generalize bgM (uI m 187 17 0) 195 (nI ty) (nI 40) = mb at f1 P1 w1 ⊢
  have w2 : WT (uI (uI mb 187 14 0) 187 28 (-1)) := (w1.t rfl (by decide) (by decide)).t rfl (by decide) (by decide)
  have P2 : PS 195 ty 40 (minT ty 40) ((uI m 187 17 0).1 195) 0 (-1) (uI (uI mb 187 14 0) 187 28 (-1)) := by
    obtain ⟨b1, b2, b3, b4, b5, b6, b7⟩ := P1
    exact ⟨b1, b2, b3, b4, b5, b6, fun k hk => b7 k hk⟩
  have F2 : Fx (RS [20, 21, 22, 48, 28]) m (uI (uI mb 187 14 0) 187 28 (-1)) := ((((Fx.rf (S := RS [20, 21, 22, 48, 28]) (m := m)).i (a := 187) (k := 17) (v := 0) rfl).tr f1 (RS_sub rfl)).i rfl).i rfl
  have z14 : ((uI (uI mb 187 14 0) 187 28 (-1)).1 187 14).toInt = 0 := rfl
  have En : EN ad (fun _ => 0) (uI (uI mb 187 14 0) 187 28 (-1)) := Or.inl ⟨rfl, fun _ => rfl⟩
  generalize uI (uI mb 187 14 0) 187 28 (-1) = mc at w2 P2 F2 z14 En ⊢
  have cp : ty ≤ 40 → ∀ (j x2 : Nat) (m3 : Wm), x2 + j = ty → WT m3 → Fx (RS [20, 21, 22, 48, 28]) m m3 → (m3.1 187 14).toInt = 0 → AW ad E0 μX12_rule (d + 167 + 1) (tqQ [20, 21, 22, 48, 28] m) 73 [(0, .ref (ad 187)), (1, .int (nI ty)), (2, .int (nI x2))] [] m3 := by
    intro h40 j
    have tt : (nI ty).toInt = (ty : Int) := nI_toInt (by omega)
    induction j with
    | zero =>
      intro x2 m3 hx wt3 f3 h14
      exact g_X12_rule_73 ⟨fun _ => ⟨wt3.t rfl (by omega) (by omega), f3.i rfl, ⟨_, rfl⟩, h14⟩, fun c => absurd ((nI_leI (by omega) (by omega)).mpr (by omega)) c⟩
    | succ j ih =>
      intro x2 m3 hx wt3 f3 h14
      refine g_X12_rule_73 ⟨fun c => absurd ((nI_leI (by omega) (by omega)).mp c) (by omega), fun _ => ⟨nat_in (by omega) (by decide), nat_in (by omega) (by decide), ?_⟩⟩
      rw [nI_1]
      exact ih (x2 + 1) _ (by omega) (wt3.n rfl) (f3.i rfl) h14
  refine ⟨rfl, fun c => ?_, fun c => ?_⟩
  · have h0 : ty = 0 := by
      have := (nI_leI (a := ty) (b := 0) (by omega) (by omega)).mp c
      omega
    subst h0
    exact cp (by decide) 0 0 mc rfl w2 F2 z14
  · refine ((rul_ok (d := d) A 164).2.2.2 0 (by decide) 0 (-1) mc P2 En (by omega)).to ?_
    rintro _ m2 ⟨rfl, h2, -, f2⟩
    have F3 := F2.tr f2 (RS_sub rfl)
    have wt2 := w2.fx f2
    generalize prF ((uI m 187 17 0).1 195) (minT ty 40) (fun _ => 0) 164 3 0 (0, -1) = R at h2 ⊢
    obtain ⟨v, q, u⟩ := R
    dsimp only at h2 ⊢
    have hqe : q ≤ minT ty 40 := h2.2.2.2.2.2.1
    have e57 : ∀ (m3 : Wm) (w3 : Int32), PS 195 ty 40 (minT ty 40) ((uI m 187 17 0).1 195) q w3 m3 → Fx (RS [22]) m2 m3 → (w3 = -1 → ty ≤ q) → AW ad E0 μX12_rule (d + 167 + 1) (tqQ [20, 21, 22, 48, 28] m) 57 [(0, .ref (ad 187)), (1, .int (nI ty))] [] m3 := by
      intro m3 w3 h3 f3 hw
      have F4 := F3.tr f3 (RS_sub rfl)
      have wt3 := wt2.fx f3
      have e14 : (m3.1 187 14).toInt = 0 := by rw [f3.at (a := 187) (k := 14) (by decide), f2.at (a := 187) (k := 14) (by decide)]; exact z14
      refine g_X12_rule_57 ((fine_ok h3).to ?_)
      rintro _ m' ⟨eq, rfl⟩
      obtain rfl := eq.symm
      by_cases hq : w3 = -1
      · have := hw hq
        exact ⟨1, by rw [if_pos hq], fun _ => cp (by omega) ty 0 m3 (by omega) wt3 F4 e14, fun c => absurd c (by decide)⟩
      · exact ⟨0, by rw [if_neg hq], fun c => absurd rfl c, fun _ => ⟨wt3, F4, ⟨_, rfl⟩, e14⟩⟩
    refine ⟨v, rfl, fun c => ?_, fun c => ?_⟩
    · rw [h2.2.2.2.1] at c
      exact e57 m2 u h2 Fx.rf (fun _ => (nI_leI (by omega) (by omega)).mp c)
    · rw [h2.2.2.2.1]
      refine (fault_ok A h2).to ?_
      rintro _ m3 ⟨rfl, h3, f3⟩
      refine ⟨rfl, e57 m3 _ h3 f3 (fun q => (flt_2 (p := _) (w := u) q (by omega)).elim)⟩
end RUM
