/-! THE RULE: both sides -/
/-- the rule in force is the same on both sides: the class's code comes to what the model's text comes to -/
def RuK (m : Wm) : Prop := ∃ P Q, RuR m P Q ∧ ∃ cl z, CodeX P cl m ∧ m.1 187 27 = nI z ∧ z ≤ 40 ∧ ((z = 0 ∧ cl = []) ∨ (z ≠ 0 ∧ cl ≠ [] ∧ ∀ lt, evR lt cl [] = some [(prF (m.1 200) z lt 164 3 0 (0, -1)).1]))
/-- from K to K' over rule() -/
def RLH (K K' : Wm → Prop) : Prop := ∀ m m1 m2, InvK K m → WT m1 → WT m2 → Fx (RS [0, 1]) m m1 → Fx (RS [20, 21, 22, 48, 28]) m1 m2 → (RuK m → RuK m2) → K' m2
theorem rg_1 {b0 j k : Nat} (hb : b0 = 5 ∨ b0 = 10) (hj : j = 0 ∨ j = 1) : rg (b0 + j) k = 1 := by
  rcases hb with rfl | rfl <;> rcases hj with rfl | rfl <;> rfl
theorem byte_id {x : Int32} (h0 : 0 ≤ x.toInt) (h1 : x.toInt ≤ 127) : vp_nar .byte x = x := by
  obtain ⟨j, hj, rfl⟩ := zn_of h0
  rw [nI_toInt hj] at h1
  have h : ∀ k : Fin 128, vp_nar .byte (nI k.val) = nI k.val := by decide +kernel
  exact h ⟨j, by omega⟩
/-- a text that is taken has signs below 128 alone -/
theorem MO_all {tx : Nat → Int32} {big : Bool} {S' : XS} : ∀ (k p : Nat) (S : XS), MO xst xok tx big k p S = .inr S' → ∀ j, p ≤ j → j < p + k → 0 ≤ (tx j).toInt ∧ (tx j).toInt ≤ 127 := by
  intro k
  induction k with
  | zero => intro p S _ j h1 h2; omega
  | succ k ih =>
    intro p S h j h1 h2
    cases e : xst (tx p) S with
    | none => rw [MO_f e] at h; cases h
    | some S2 =>
      rw [MO_s e] at h
      by_cases hj : j = p
      · subst hj
        by_cases q : (tx j).toInt < 0 ∨ 128 ≤ (tx j).toInt
        · obtain ⟨⟨w, dg, fs⟩, cd, wt⟩ := S
          rw [xst_none (rst_no q)] at e
          cases e
        · omega
      · exact ih (p + 1) S2 h j (by omega) (by omega)
theorem xok_1 {dg : Nat} {f : Bool} {cd wt : List Int32} : xok ((false, dg, [f]), cd, wt) = true := decide_eq_true (p := false = false ∧ [f].length = 1) ⟨rfl, rfl⟩
section RUB
variable {ad : Nat → Nat} {d : Nat} {K K' : Wm → Prop}
theorem os_rule (hRu : ∀ m, K m → ∃ P Q, RuR m P Q) (hR : RLH K K') : Both ad d μX11_rule μX12_rule [] (InvK K) (InvK K') := fun m I => by
  have IK := I
  obtain ⟨w, I1, k0⟩ := I
  have I0 := I1
  obtain ⟨h1, h2, h3, h4, h5⟩ := I0
  obtain ⟨P, Q, hPQ⟩ := hRu m k0
  have hP : P = 5 ∨ P = 10 := by have := hPQ.2.2; omega
  have hQ : Q = 5 ∨ Q = 10 := by have := hPQ.2.2; omega
  obtain ⟨t, et, -, -, t80, -⟩ := w.nat (a := 1) (k := 1) rfl (by decide)
  have ht14 : m.1 187 14 = nI t := h2.1.symm.trans et
  have hlt : ∀ k, k < t → k < (m.1 1 1).toInt := fun k hk => by rw [et, nI_toInt (by omega)]; omega
  have hch : ∀ k, k < t → (m.1 2 k).toInt ≤ 255 := fun k hk => by
    rcases h2.2 k (hlt k hk) with ⟨a1, a2, a3⟩ | ⟨-, -, a⟩
    · rw [a3]; omega
    · exact a
  have e40 : minT t 40 ≤ 40 := by unfold minT; split <;> omega
  have ett : minT t 40 ≤ t := by unfold minT; split <;> omega
  refine (e_ruleC (d := d + 295) w hPQ et (by omega) hch).to ?_
  rintro r m1 ⟨w1, f1, z11, hC⟩
  have g195 : m1.1 195 = m.1 195 := funext fun k => f1.at (nRS (ρ := 21) rfl rfl)
  have k14 : m1.1 187 14 = nI t := (f1.at (nRS (ρ := 21) rfl rfl)).trans ht14
  have hM := e_ruleM (ad := ad) (d := d + 132) w1 k14 (by omega)
  rw [g195] at hM
  have D0 := fun lt O hO => (des_rel (lt := lt) (tx := m.1 195) (e := minT t 40) (big := decide (40 < t)) (by omega) 164).2.2.2 0 0 [] [] [] O (by decide) rfl (Nat.zero_le _) (by omega) trivial hO
  have s0 : ∃ s, (prF (m.1 195) (minT t 40) (fun _ => 0) 164 3 0 (0, -1)).2 = s := ⟨_, rfl⟩
  obtain ⟨s, hs⟩ := s0
  rw [hs] at hM
  have fin : ∀ v : Int32, r = some (.int v) → (∀ r2 m2, ruM m1 t s r2 m2 → r2 = some (.int v) ∧ (RuK m → RuK m2)) → ∃ v : Int32, r = some (.int v) ∧ Ct ad μX12_rule (d + 300) [.ref (ad 187)] m1 (fun r m2 => r = some (.int v) ∧ InvK K' m2) := fun v hr h => ⟨v, hr, hM.to (fun r2 m2 hh => by
    have e11 : m2.1 1 1 = 0 := (hh.2.1.at (nRS (ρ := 0) rfl rfl)).trans z11
    exact ⟨(h r2 m2 hh).1, hh.1, ⟨(h1.fx f1 rfl).fx hh.2.1 rfl, TXI.zero (by rw [e11]; rfl) hh.2.2.1, IV.sd I1 f1 hh.2.1 rfl rfl⟩, hR m m1 m2 IK w1 hh.1 f1 hh.2.1 (h r2 m2 hh).2⟩)⟩
  -- the model's side of a rule that is kept
  have keep : ∀ m2, RuR m1 P Q → (∀ b k, P ≤ b → b ≤ P + 4 → m1.1 b k = m.1 b k) → Fx (RS [20, 21, 22, 28]) m1 m2 → RuK m → RuK m2 := fun m2 hR1 hc f2 hk => by
    obtain ⟨P', Q', hR', cl, z, hX, h27, hz, hv⟩ := hk
    have hPP : P' = P := Option.some.inj (hR'.1.symm.trans hPQ.1)
    subst hPP
    have g1 : ∀ j k, j = 0 ∨ j = 1 → m2.1 (P' + j) k = m.1 (P' + j) k := fun j k hj => (f2.at (nRS (ρ := 1) rfl (rg_1 hP hj))).trans (hc _ k (by omega) (by omega))
    have g200 : m2.1 200 = m.1 200 := funext fun k => (f2.at (nRS (ρ := 48) rfl rfl)).trans (f1.at (nRS (ρ := 48) rfl rfl))
    refine ⟨P', Q, ⟨((f2 3 1 (nRS (ρ := 1) rfl rfl)).2.2).trans hR1.1, ((f2 3 2 (nRS (ρ := 1) rfl rfl)).2.2).trans hR1.2.1, hPQ.2.2⟩, cl, z, ⟨(g1 0 4 (Or.inl rfl)).trans hX.1, hX.2.1.k (fun k => g1 1 k (Or.inr rfl)), hX.2.2⟩, ((f2.at (nRS (ρ := 48) rfl rfl)).trans (f1.at (nRS (ρ := 48) rfl rfl))).trans h27, hz, ?_⟩
    rw [g200]
    exact hv
  -- and of a new one
  have new : ∀ (cl : List Int32) (z : Nat) (m2 : Wm), RuR m1 Q P → CodeX Q cl m1 → Fx (RS [20, 21, 22, 48, 28]) m1 m2 → m2.1 187 27 = nI z → z ≤ 40 → (∀ k, k < z → m2.1 200 k = vp_nar .byte (m1.1 195 k)) → (∀ k, k < z → 0 ≤ (m.1 195 k).toInt ∧ (m.1 195 k).toInt ≤ 127) → ((z = 0 ∧ cl = []) ∨ (z ≠ 0 ∧ cl ≠ [] ∧ ∀ lt, evR lt cl [] = some [(prF (m.1 195) z lt 164 3 0 (0, -1)).1])) → RuK m2 := fun cl z m2 hR1 hX f2 h27 hz h200 hby hv => by
    have g1 : ∀ j k, j = 0 ∨ j = 1 → m2.1 (Q + j) k = m1.1 (Q + j) k := fun j k hj => f2.at (nRS (ρ := 1) rfl (rg_1 hQ hj))
    refine ⟨Q, P, ⟨((f2 3 1 (nRS (ρ := 1) rfl rfl)).2.2).trans hR1.1, ((f2 3 2 (nRS (ρ := 1) rfl rfl)).2.2).trans hR1.2.1, hR1.2.2⟩, cl, z, ⟨(g1 0 4 (Or.inl rfl)).trans hX.1, hX.2.1.k (fun k => g1 1 k (Or.inr rfl)), hX.2.2⟩, h27, hz, ?_⟩
    rcases hv with hv | ⟨v1, v2, v3⟩
    · exact Or.inl hv
    · refine Or.inr ⟨v1, v2, fun lt => ?_⟩
      rw [v3 lt, prF_ch (tx := m2.1 200) (tb := m.1 195) (fun k hk => (h200 k hk).trans ((congrArg (vp_nar .byte) (congrFun g195 k)).trans (byte_id (hby k hk).1 (hby k hk).2)))]
  rcases hC with ⟨h0, hr, hR1, hX⟩ | ⟨h0, hq, hS⟩
  · exact fin 0 hr (fun r2 m2 hh => by
      obtain ⟨a1, a2, a3⟩ := hh.2.2.2.2.2 (Or.inl h0)
      exact ⟨a1, fun _ => new [] t m2 hR1 hX hh.2.1 a2 (by omega) a3 (fun k hk => by omega) (Or.inl ⟨h0, rfl⟩)⟩)
  · have eO : MO xst xok (m.1 2) (decide (40 < t)) (minT t 40) 0 ((true, 0, [false]), [], []) = MO xst xok (m.1 195) (decide (40 < t)) (minT t 40) 0 ((true, 0, [false]), [], []) := MO_ch (fun _ _ S h => xst_ch S h) (fun j hj => h2.2 j (hlt j (by omega)))
    rw [eO] at hq hS
    generalize hO : MO xst xok (m.1 195) (decide (40 < t)) (minT t 40) 0 ((true, 0, [false]), [], []) = O at hq hS
    have D := D0 (fun _ => 0) O hO
    have D1 := fun lt => D0 lt O hO
    generalize prF (m.1 195) (minT t 40) (fun _ => 0) 164 3 0 (0, -1) = R at hs D
    obtain ⟨v0, p, u⟩ := R
    have hs' : (p, u) = s := hs
    subst hs'
    by_cases hu : u = -1
    · obtain ⟨a, b, dg, fs, cd, wt, ⟨f, rfl⟩, cv, c2, c3, c4⟩ := D.2 hu
      dsimp only at a b c2 c3 c4 cv
      by_cases hp : p < t
      · have hOp : O = .inl p := by
          rw [← c4]
          by_cases hpe : p < minT t 40
          · rw [ep_s hpe]
            refine MO_f ?_
            by_cases c41 : m.1 195 p = 41
            · rw [c41]; exact xst_none rst_p1
            · exact xst_none (rst_end (c2 hpe) (c3 hpe) c41)
          · rw [show minT t 40 - p = 0 by omega]
            refine MO_n (fun z => ?_)
            have hb := of_decide_eq_false z.1
            have : minT t 40 = t := by
              unfold minT
              split
              · rfl
              · omega
            omega
        obtain ⟨y1, y2, y3⟩ := hq p hOp
        exact fin (-1 - nI p) y1 (fun r2 m2 hh => by
          obtain ⟨a1, a2⟩ := hh.2.2.2.2.1 h0 hu hp
          exact ⟨a1, keep m2 y2 y3 a2⟩)
      · have hpe : ¬ p < minT t 40 := by omega
        have hb : decide (40 < t) = false := decide_eq_false (fun z => by omega)
        have hOr : O = .inr ((false, dg, [f]), cd, wt) := by
          rw [← c4, show minT t 40 - p = 0 by omega]
          exact MO_e ⟨hb, xok_1⟩
        obtain ⟨y1, y2, y3, y4⟩ := hS _ hOr
        dsimp only at y3 y4
        have h40 : minT t 40 = t := by unfold minT; split <;> omega
        refine fin 0 y1 (fun r2 m2 hh => ?_)
        obtain ⟨a1, a2, a3⟩ := hh.2.2.2.2.2 (Or.inr ⟨hu, hp⟩)
        refine ⟨a1, fun _ => new _ t m2 y2 y3 hh.2.1 a2 (by omega) a3 (fun k hk => MO_all _ _ _ (hO.trans hOr) k (Nat.zero_le _) (by omega)) (Or.inr ⟨h0, y4, fun lt => ?_⟩)⟩
        -- by every reading of the letters the run is the same one
        have E := D1 lt
        rw [← h40]
        generalize prF (m.1 195) (minT t 40) lt 164 3 0 (0, -1) = R' at E ⊢
        obtain ⟨v', p', u'⟩ := R'
        by_cases hu' : u' = -1
        · obtain ⟨a', b', dg', fs', cd', wt', ⟨f', rfl⟩, cv', c2', c3', c4'⟩ := E.2 hu'
          dsimp only at a' b' c2' c3' c4' cv' ⊢
          rw [hOr] at c4'
          have hp' : ¬ p' < minT t 40 := fun hlt' => by
            rw [ep_s hlt'] at c4'
            by_cases c41 : m.1 195 p' = 41
            · rw [MO_f (by rw [c41]; exact xst_none rst_p1)] at c4'; cases c4'
            · rw [MO_f (xst_none (rst_end (c2' hlt') (c3' hlt') c41))] at c4'; cases c4'
          rw [show minT t 40 - p' = 0 by omega, MO_e ⟨hb, xok_1⟩] at c4'
          have e1 := Sum.inr.inj c4'
          have ecd : cd' = cd := congrArg (fun X : XS => X.2.1) e1
          have ewt : wt' = wt := congrArg (fun X : XS => X.2.2) e1
          obtain ⟨sg, pd, g1, g2, g3, g4⟩ := cv'
          rw [ecd] at g1
          rw [ewt] at g2
          rw [g1, g2, relL_fl pd sg [] [] g3 trivial]
          dsimp only
          rw [List.append_nil]
          exact g4 []
        · obtain ⟨q, hq', e1, e2⟩ := E.1 hu'
          rw [hOr] at e1
          cases e1
    · obtain ⟨q, hq', e1, e2⟩ := D.1 hu
      have e2' : u = nI q := e2
      obtain ⟨y1, y2, y3⟩ := hq q e1
      exact fin (-1 - nI q) y1 (fun r2 m2 hh => by
        obtain ⟨a1, a2⟩ := hh.2.2.2.1 h0 hu
        exact ⟨by rw [a1]; show some (Value.int (-1 - u)) = _; rw [e2'], keep m2 y2 y3 a2⟩)
end RUB
