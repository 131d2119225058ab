/-! EACH CALL KEEPS THE NUMBER OF THE ROW THE SAME ON BOTH SIDES -/
def InvR (c : Nat) (m : Wm) : Prop := InvK (KX KG c) m ∧ RoC m
section ONR
variable {ad : Nat → Nat} {d : Nat}
theorem kj_at {μ μ' : MI} {as as' : List Value} {m : Wm} {J : Wm → Prop} {P1 : Int32 → Wm → Prop} {P2 : Int32 → Wm → Int32 → Wm → Prop}
    (og : Ct ad μ (d + 300) as m (fun r m1 => ∃ v : Int32, r = some (.int v) ∧ Ct ad μ' (d + 300) as' m1 (fun r m2 => r = some (.int v) ∧ J m2)))
    (h1 : Ct ad μ (d + 300) as m (fun r m1 => ∃ v : Int32, r = some (.int v) ∧ P1 v m1))
    (h2 : ∀ v m1, P1 v m1 → Ct ad μ' (d + 300) as' m1 (fun r m2 => ∃ w : Int32, r = some (.int w) ∧ P2 v m1 w m2))
    (h3 : ∀ v m1 m2, P1 v m1 → P2 v m1 v m2 → RoC m2) : Ct ad μ (d + 300) as m (fun r m1 => ∃ v : Int32, r = some (.int v) ∧ Ct ad μ' (d + 300) as' m1 (fun r m2 => r = some (.int v) ∧ J m2 ∧ RoC m2)) := by
  refine (kj_and og h1).to ?_
  rintro _ m1 ⟨⟨v, rfl, p1⟩, m1', ⟨v', ev, c2⟩, s1, -⟩
  have e1 : v' = v := by
    injection Option.some.inj ev with e
    exact e.symm
  subst e1
  refine ⟨v', rfl, (kj_and (h2 v' m1 p1) (kj_sim s1 c2)).to ?_⟩
  rintro _ m2 ⟨⟨rfl, hJ⟩, m2', ⟨w, ew, p2⟩, -, E1, E2⟩
  have e2 : v' = w := by
    injection Option.some.inj ew
  subst e2
  have := h3 v' m1 m2' p1 p2
  unfold RoC at this ⊢
  rw [E1, E2] at this
  exact ⟨rfl, hJ, this⟩
theorem kj_same {μ μ' : MI} {as : List Value} {I J : Wm → Prop} {S1 S2 : List Nat} (og : Both ad d μ μ' as I J)
    (h1 : ∀ m, I m → Ct ad μ (d + 300) (.ref (ad 0) :: as) m (fun r m1 => WT m1 ∧ Fx (RS S1) m m1 ∧ ∃ v : Int32, r = some (.int v)))
    (h2 : ∀ m m1, I m → WT m1 → Fx (RS S1) m m1 → Ct ad μ' (d + 300) (.ref (ad 187) :: as) m1 (fun r m2 => WT m2 ∧ Fx (RS S2) m1 m2 ∧ ∃ v : Int32, r = some (.int v)))
    (e1 : S1.elem 9 = false) (e2 : S1.elem 26 = false) (e3 : S2.elem 9 = false) (e4 : S2.elem 26 = false) : Both ad d μ μ' as (fun m => I m ∧ RoC m) (fun m => J m ∧ RoC m) :=
  kj_both (P1 := fun m _ m1 => WT m1 ∧ Fx (RS S1) m m1) (P2 := fun _ _ m1 _ m2 => Fx (RS S2) m1 m2) og
    (fun m I => (h1 m I).to (fun r m1 h => by
      obtain ⟨w1, f1, v, rfl⟩ := h
      exact ⟨v, rfl, w1, f1⟩))
    (fun m v m1 I p => (h2 m m1 I p.1 p.2).to (fun r m2 h => by
      obtain ⟨w2, f2, v, rfl⟩ := h
      exact ⟨v, rfl, f2⟩))
    (fun m v m1 m2 I R p q => by
      unfold RoC at R ⊢
      rw [q.at (a := 0) (k := 18) (nRS (ρ := 9) e3 rfl), p.2.at (a := 0) (k := 18) (nRS (ρ := 9) e1 rfl), q.at (a := 187) (k := 16) (nRS (ρ := 26) e4 rfl), p.2.at (a := 187) (k := 16) (nRS (ρ := 26) e2 rfl)]
      exact R)
theorem on_sign (c : Nat) (x1 : Int32) : Both ad d μX11_sign μX12_sign [.int x1] (InvR c) (InvR (c + 1)) := kj_same (S1 := [0]) (S2 := [20, 21]) (os_sign (KX.kd c KG.kd) x1) (fun m I => (s_X11_sign I.1).to (fun r m1 h => by
    obtain ⟨w1, f1, v, rfl, -⟩ := h
    exact ⟨w1, f1, v, rfl⟩)) (fun m m1 I w f => (s_X12_sign w).to (fun r m1 h => by
    obtain ⟨w1, f1, v, rfl, -⟩ := h
    exact ⟨w1, f1, v, rfl⟩)) rfl rfl rfl rfl
theorem on_end (c : Nat) (x1 : Int32) : Both ad d μX11_end μX12_end [.int x1] (InvR c) (InvR (c + 1)) := kj_same (S1 := [0]) (S2 := [20, 21]) (os_end (KX.kd c KG.kd) x1) (fun m I => (s_X11_end I.1).to (fun r m1 h => by
    obtain ⟨w1, f1, v, rfl, -⟩ := h
    exact ⟨w1, f1, v, rfl⟩)) (fun m m1 I w f => (s_X12_end w).to (fun r m1 h => by
    obtain ⟨w1, f1, v, rfl, -⟩ := h
    exact ⟨w1, f1, v, rfl⟩)) rfl rfl rfl rfl
theorem on_league (c : Nat) (hc : c < 1000) : Both ad d μX11_league μX12_league [] (InvR c) (InvR (c + 1)) := kj_same (S1 := [0, 3, 4, 7, 8, 13, 41, 42, 44, 53]) (S2 := [20, 21, 22, 23, 24, 25, 27, 29, 39, 45, 46, 52]) (og_league c hc) (fun m I => (s_X11_league I.1).to (fun r m1 h => by
    obtain ⟨w1, f1, v, rfl, -⟩ := h
    exact ⟨w1, f1, v, rfl⟩)) (fun m m1 I w f => (s_X12_league w).to (fun r m1 h => by
    obtain ⟨w1, f1, ⟨v, rfl⟩, -⟩ := h
    exact ⟨w1, f1, v, rfl⟩)) rfl rfl rfl rfl
theorem on_rule (c : Nat) : Both ad d μX11_rule μX12_rule [] (InvR c) (InvR (c + 1)) := kj_same (S1 := [0, 1]) (S2 := [20, 21, 22, 48, 28]) (os_rule (KG.rr c) (KG.rl c)) (fun m I => (s_X11_rule I.1).to (fun r m1 h => by
    obtain ⟨w1, f1, v, rfl, -⟩ := h
    exact ⟨w1, f1, v, rfl⟩)) (fun m m1 I w f => (s_X12_rule w).to (fun r m1 h => by
    obtain ⟨w1, f1, ⟨v, rfl⟩, -⟩ := h
    exact ⟨w1, f1, v, rfl⟩)) rfl rfl rfl rfl
theorem on_plan (c : Nat) : Both ad d μX11_plan μX12_plan [] (InvR c) (InvR (c + 1)) := kj_same (S1 := [0, 7, 44, 54]) (S2 := [20, 21, 22, 25, 27, 52, 55]) (ob_plan (KG.trn rfl rfl) c) (fun m I => (s_X11_plan I.1).to (fun r m1 h => by
    obtain ⟨w1, f1, v, rfl, -⟩ := h
    exact ⟨w1, f1, v, rfl⟩)) (fun m m1 I w f => (s_X12_plan w).to (fun r m1 h => by
    obtain ⟨w1, f1, ⟨v, rfl⟩, -⟩ := h
    exact ⟨w1, f1, v, rfl⟩)) rfl rfl rfl rfl
theorem on_skill (c : Nat) (x1 x2 : Int32) : Both ad d μX11_skill μX12_skill [.int x1, .int x2] (InvR c) (InvR (c + 1)) := kj_same (S1 := []) (S2 := [20]) (og_skill c x1 x2) (fun m I => (s_X11_skill I.1).to (fun r m1 h => by
    obtain ⟨w1, f1, v, rfl⟩ := h
    exact ⟨w1, f1, v, rfl⟩)) (fun m m1 I w f => (s_X12_skill w).to (fun r m1 h => by
    obtain ⟨w1, f1, v, rfl⟩ := h
    exact ⟨w1, f1, v, rfl⟩)) rfl rfl rfl rfl
theorem on_law (c : Nat) (x1 x2 : Int32) : Both ad d μX11_law μX12_law [.int x1, .int x2] (InvR c) (InvR (c + 1)) := kj_same (S1 := [43]) (S2 := [20, 47]) (og_law c x1 x2) (fun m I => (s_X11_law I.1).to (fun r m1 h => by
    obtain ⟨w1, f1, v, rfl⟩ := h
    exact ⟨w1, f1, v, rfl⟩)) (fun m m1 I w f => (s_X12_law w).to (fun r m1 h => by
    obtain ⟨w1, f1, v, rfl⟩ := h
    exact ⟨w1, f1, v, rfl⟩)) rfl rfl rfl rfl
theorem on_sheet (c : Nat) (x1 x2 x3 x4 x5 : Int32) : Both ad d μX11_sheet μX12_sheet [.int x1, .int x2, .int x3, .int x4, .int x5] (InvR c) (InvR (c + 1)) := kj_same (S1 := [4, 53]) (S2 := [20, 24, 29]) (og_sheet c x1 x2 x3 x4 x5) (fun m I => (s_X11_sheet I.1).to (fun r m1 h => by
    obtain ⟨w1, f1, v, rfl⟩ := h
    exact ⟨w1, f1, v, rfl⟩)) (fun m m1 I w f => (s_X12_sheet w).to (fun r m1 h => by
    obtain ⟨w1, f1, v, rfl⟩ := h
    exact ⟨w1, f1, v, rfl⟩)) rfl rfl rfl rfl
theorem on_ill (c : Nat) (x1 x2 : Int32) (hb : x2 = 0 ∨ x2 = 1) : Both ad d μX11_ill μX12_ill [.int x1, .int x2] (InvR c) (InvR (c + 1)) := kj_same (S1 := [42]) (S2 := [20, 46]) (og_ill c x1 x2 hb) (fun m I => (s_X11_ill I.1).to (fun r m1 h => by
    obtain ⟨w1, f1, v, rfl, -⟩ := h
    exact ⟨w1, f1, v, rfl⟩)) (fun m m1 I w f => (s_X12_ill w).to (fun r m1 h => by
    obtain ⟨w1, f1, v, rfl, -⟩ := h
    exact ⟨w1, f1, v, rfl⟩)) rfl rfl rfl rfl
theorem on_swap (c : Nat) (x1 x2 : Int32) : Both ad d μX11_swap μX12_swap [.int x1, .int x2] (InvR c) (InvR (c + 1)) := kj_same (S1 := [4, 53]) (S2 := [20, 24, 29]) (og_swap c x1 x2) (fun m I => (s_X11_swap I.1).to (fun r m1 h => by
    obtain ⟨w1, f1, v, rfl, -⟩ := h
    exact ⟨w1, f1, v, rfl⟩)) (fun m m1 I w f => (s_X12_swap w).to (fun r m1 h => by
    obtain ⟨w1, f1, v, rfl, -⟩ := h
    exact ⟨w1, f1, v, rfl⟩)) rfl rfl rfl rfl
theorem on_circle (c : Nat) : Both ad d μX11_circle μX12_circle [] (InvR c) (InvR (c + 1)) := kj_same (S1 := [7, 44]) (S2 := [20, 25, 32, 52, 55]) (ob_circle (KG.trn rfl rfl) c) (fun m I => (s_X11_circle I.1).to (fun r m1 h => by
    obtain ⟨w1, f1, v, rfl⟩ := h
    exact ⟨w1, f1, v, rfl⟩)) (fun m m1 I w f => (s_X12_circle w).to (fun r m1 h => by
    obtain ⟨w1, f1, ⟨v, rfl⟩, -⟩ := h
    exact ⟨w1, f1, v, rfl⟩)) rfl rfl rfl rfl
theorem on_game (c : Nat) (x1 x2 x3 : Int32) : Both ad d μX11_game μX12_game [.int x1, .int x2, .int x3] (InvR c) (InvR (c + 1)) := kj_both (P1 := fun m v m1 => WT m1 ∧ Fx (RS [2, 5, 9, 14]) m m1 ∧ ((v.toInt = -1 ∧ (m1.1 0 18).toInt = (m.1 0 18).toInt) ∨ (0 ≤ v.toInt ∧ (m1.1 0 18).toInt = 2))) (P2 := fun m v m1 w m2 => Fx (RS [20, 22, 26, 28]) m1 m2 ∧ ((w.toInt = -1 ∧ (m2.1 187 16).toInt = (m1.1 187 16).toInt) ∨ (0 ≤ w.toInt ∧ (m2.1 187 16).toInt = 2))) (og_game c x1 x2 x3) (fun m I => (n_X11_game I.1).to (fun r m1 h => by
    obtain ⟨w1, f1, v, rfl, p⟩ := h
    exact ⟨v, rfl, w1, f1, p⟩)) (fun m v m1 I p => (n_X12_game p.1).to (fun r m2 h => by
    obtain ⟨w2, f2, w, rfl, q⟩ := h
    exact ⟨w, rfl, f2, q⟩)) (fun m v m1 m2 I R p q => by
    obtain ⟨w1, f1, p⟩ := p
    obtain ⟨f2, q⟩ := q
    have a1 : (m1.1 187 16).toInt = (m.1 187 16).toInt := congrArg _ (f1.at (nRS (ρ := 26) rfl rfl))
    have a2 : (m2.1 0 18).toInt = (m1.1 0 18).toInt := congrArg _ (f2.at (nRS (ρ := 9) rfl rfl))
    have a3 : (m1.1 187 1).toInt = (m.1 187 1).toInt := congrArg _ (f1.at (nRS (ρ := 23) rfl rfl))
    have a4 : (m.1 3 3).toInt = (m.1 187 1).toInt := congrArg _ I.2.1.2.2.1
    unfold RoC at R ⊢
    omega)
theorem on_odds (c : Nat) (x1 x2 : Int32) : Both ad d μX11_odds μX12_odds [.int x1, .int x2] (InvR c) (InvR (c + 1)) := kj_same (S1 := [14]) (S2 := [20, 22, 28]) (og_odds c x1 x2) (fun m I => (s_X11_odds I.1).to (fun r m1 h => by
    obtain ⟨w1, f1, v, rfl⟩ := h
    exact ⟨w1, f1, v, rfl⟩)) (fun m m1 I w f => (s_X12_odds w).to (fun r m1 h => by
    obtain ⟨w1, f1, v, rfl⟩ := h
    exact ⟨w1, f1, v, rfl⟩)) rfl rfl rfl rfl
theorem on_play (c : Nat) (x1 x2 x3 : Int32) : Both ad d μX11_play μX12_play [.int x1, .int x2, .int x3] (InvR c) (InvR (c + 1)) := kj_both (P1 := fun m v m1 => WT m1 ∧ Fx (RS [2, 4, 6, 9, 14, 53]) m m1 ∧ ((v.toInt = -1 ∧ (m1.1 0 18).toInt = (m.1 0 18).toInt) ∨ (0 ≤ v.toInt ∧ (m1.1 0 18).toInt = 2))) (P2 := fun m v m1 w m2 => Fx (RS [20, 22, 24, 26, 28, 29, 49]) m1 m2 ∧ ((w.toInt = -1 ∧ (m2.1 187 16).toInt = (m1.1 187 16).toInt) ∨ (0 ≤ w.toInt ∧ (m2.1 187 16).toInt = 2))) (og_play c x1 x2 x3) (fun m I => (n_X11_play I.1).to (fun r m1 h => by
    obtain ⟨w1, f1, v, rfl, p⟩ := h
    exact ⟨v, rfl, w1, f1, p⟩)) (fun m v m1 I p => (n_X12_play p.1).to (fun r m2 h => by
    obtain ⟨w2, f2, w, rfl, q⟩ := h
    exact ⟨w, rfl, f2, q⟩)) (fun m v m1 m2 I R p q => by
    obtain ⟨w1, f1, p⟩ := p
    obtain ⟨f2, q⟩ := q
    have a1 : (m1.1 187 16).toInt = (m.1 187 16).toInt := congrArg _ (f1.at (nRS (ρ := 26) rfl rfl))
    have a2 : (m2.1 0 18).toInt = (m1.1 0 18).toInt := congrArg _ (f2.at (nRS (ρ := 9) rfl rfl))
    have a3 : (m1.1 187 1).toInt = (m.1 187 1).toInt := congrArg _ (f1.at (nRS (ρ := 23) rfl rfl))
    have a4 : (m.1 3 3).toInt = (m.1 187 1).toInt := congrArg _ I.2.1.2.2.1
    unfold RoC at R ⊢
    omega)
theorem on_undo (c : Nat) : Both ad d μX11_undo μX12_undo [] (InvR c) (InvR (c + 1)) := kj_same (S1 := [4, 53]) (S2 := [20, 24, 29, 49]) (og_undo c) (fun m I => (s_X11_undo I.1).to (fun r m1 h => by
    obtain ⟨w1, f1, v, rfl⟩ := h
    exact ⟨w1, f1, v, rfl⟩)) (fun m m1 I w f => (s_X12_undo w).to (fun r m1 h => by
    obtain ⟨w1, f1, v, rfl⟩ := h
    exact ⟨w1, f1, v, rfl⟩)) rfl rfl rfl rfl
theorem on_judge (c : Nat) (x1 x2 : Int32) : Both ad d μX11_judge μX12_judge [.int x1, .int x2] (InvR c) (InvR (c + 1)) := kj_both (P1 := fun m v m1 => WT m1 ∧ Fx (RS [2, 5, 9, 14]) m m1 ∧ ((v.toInt = -1 ∧ (m1.1 0 18).toInt = (m.1 0 18).toInt) ∨ (v.toInt ≠ -1 ∧ (m1.1 0 18).toInt = 1))) (P2 := fun m v m1 w m2 => Fx (RS [20, 22, 24, 26, 28, 30, 49]) m1 m2 ∧ ((w.toInt = -1 ∧ (m2.1 187 16).toInt = (m1.1 187 16).toInt) ∨ (w.toInt ≠ -1 ∧ (m2.1 187 16).toInt = 1))) (og_judge c x1 x2) (fun m I => (n_X11_judge I.1).to (fun r m1 h => by
    obtain ⟨w1, f1, v, rfl, p⟩ := h
    exact ⟨v, rfl, w1, f1, p⟩)) (fun m v m1 I p => (n_X12_judge p.1).to (fun r m2 h => by
    obtain ⟨w2, f2, w, rfl, q⟩ := h
    exact ⟨w, rfl, f2, q⟩)) (fun m v m1 m2 I R p q => by
    obtain ⟨w1, f1, p⟩ := p
    obtain ⟨f2, q⟩ := q
    have a1 : (m1.1 187 16).toInt = (m.1 187 16).toInt := congrArg _ (f1.at (nRS (ρ := 26) rfl rfl))
    have a2 : (m2.1 0 18).toInt = (m1.1 0 18).toInt := congrArg _ (f2.at (nRS (ρ := 9) rfl rfl))
    have a3 : (m1.1 187 1).toInt = (m.1 187 1).toInt := congrArg _ (f1.at (nRS (ρ := 23) rfl rfl))
    have a4 : (m.1 3 3).toInt = (m.1 187 1).toInt := congrArg _ I.2.1.2.2.1
    unfold RoC at R ⊢
    omega)
theorem on_rounds (c : Nat) (x1 : Int32) : Both ad d μX11_rounds μX12_rounds [.int x1] (InvR c) (InvR (c + 1)) := kj_both (P1 := fun m v m1 => WT m1 ∧ Fx (RS [2, 4, 6, 9, 14, 44, 53]) m m1 ∧ ((v.toInt = -1 ∧ (m1.1 0 18).toInt = (m.1 0 18).toInt) ∨ (0 ≤ v.toInt ∧ (m1.1 0 18).toInt = 2))) (P2 := fun m v m1 w m2 => Fx (RS [20, 22, 24, 26, 28, 29, 31, 49, 52]) m1 m2 ∧ ((w.toInt = -1 ∧ (m2.1 187 16).toInt = (m1.1 187 16).toInt) ∨ (0 ≤ w.toInt ∧ (m2.1 187 16).toInt = 2))) (og_rounds c x1) (fun m I => (n_X11_rounds I.1).to (fun r m1 h => by
    obtain ⟨w1, f1, v, rfl, p⟩ := h
    exact ⟨v, rfl, w1, f1, p⟩)) (fun m v m1 I p => (n_X12_rounds p.1).to (fun r m2 h => by
    obtain ⟨w2, f2, w, rfl, -, -, q⟩ := h
    exact ⟨w, rfl, f2, q⟩)) (fun m v m1 m2 I R p q => by
    obtain ⟨w1, f1, p⟩ := p
    obtain ⟨f2, q⟩ := q
    have a1 : (m1.1 187 16).toInt = (m.1 187 16).toInt := congrArg _ (f1.at (nRS (ρ := 26) rfl rfl))
    have a2 : (m2.1 0 18).toInt = (m1.1 0 18).toInt := congrArg _ (f2.at (nRS (ρ := 9) rfl rfl))
    have a3 : (m1.1 187 1).toInt = (m.1 187 1).toInt := congrArg _ (f1.at (nRS (ρ := 23) rfl rfl))
    have a4 : (m.1 3 3).toInt = (m.1 187 1).toInt := congrArg _ I.2.1.2.2.1
    unfold RoC at R ⊢
    omega)
theorem on_beats (c : Nat) (x1 : Int32) : Both ad d μX11_beats μX12_beats [.int x1] (InvR c) (InvR (c + 1)) := kj_both (P1 := fun m v m1 => WT m1 ∧ Fx (RS [9, 14]) m m1 ∧ (((x1.toInt < 0 ∨ (m.1 3 3).toInt ≤ x1.toInt) ∧ (m1.1 0 18).toInt = (m.1 0 18).toInt) ∨ (0 ≤ x1.toInt ∧ x1.toInt < (m.1 3 3).toInt ∧ (m1.1 0 18).toInt = 1))) (P2 := fun m v m1 w m2 => Fx (RS [20, 22, 26, 28]) m1 m2 ∧ (((x1.toInt < 0 ∨ (m1.1 187 1).toInt ≤ x1.toInt) ∧ (m2.1 187 16).toInt = (m1.1 187 16).toInt) ∨ (0 ≤ x1.toInt ∧ x1.toInt < (m1.1 187 1).toInt ∧ (m2.1 187 16).toInt = 1))) (og_beats c x1) (fun m I => (n_X11_beats I.1).to (fun r m1 h => by
    obtain ⟨w1, f1, v, rfl, p⟩ := h
    exact ⟨v, rfl, w1, f1, p⟩)) (fun m v m1 I p => (n_X12_beats p.1).to (fun r m2 h => by
    obtain ⟨w2, f2, w, rfl, q⟩ := h
    exact ⟨w, rfl, f2, q⟩)) (fun m v m1 m2 I R p q => by
    obtain ⟨w1, f1, p⟩ := p
    obtain ⟨f2, q⟩ := q
    have a1 : (m1.1 187 16).toInt = (m.1 187 16).toInt := congrArg _ (f1.at (nRS (ρ := 26) rfl rfl))
    have a2 : (m2.1 0 18).toInt = (m1.1 0 18).toInt := congrArg _ (f2.at (nRS (ρ := 9) rfl rfl))
    have a3 : (m1.1 187 1).toInt = (m.1 187 1).toInt := congrArg _ (f1.at (nRS (ρ := 23) rfl rfl))
    have a4 : (m.1 3 3).toInt = (m.1 187 1).toInt := congrArg _ I.2.1.2.2.1
    unfold RoC at R ⊢
    omega)
theorem on_kings (c : Nat) : Both ad d μX11_kings μX12_kings [] (InvR c) (InvR (c + 1)) := kj_both (P1 := fun m v m1 => WT m1 ∧ Fx (RS [9, 14]) m m1 ∧ ((m1.1 0 18).toInt = 1)) (P2 := fun m v m1 w m2 => Fx (RS [20, 22, 26, 28]) m1 m2 ∧ ((m2.1 187 16).toInt = 1)) (og_kings c) (fun m I => (n_X11_kings I.1).to (fun r m1 h => by
    obtain ⟨w1, f1, v, rfl, p⟩ := h
    exact ⟨v, rfl, w1, f1, p⟩)) (fun m v m1 I p => (n_X12_kings p.1).to (fun r m2 h => by
    obtain ⟨w2, f2, w, rfl, q⟩ := h
    exact ⟨w, rfl, f2, q⟩)) (fun m v m1 m2 I R p q => by
    obtain ⟨w1, f1, p⟩ := p
    obtain ⟨f2, q⟩ := q
    have a1 : (m1.1 187 16).toInt = (m.1 187 16).toInt := congrArg _ (f1.at (nRS (ρ := 26) rfl rfl))
    have a2 : (m2.1 0 18).toInt = (m1.1 0 18).toInt := congrArg _ (f2.at (nRS (ρ := 9) rfl rfl))
    have a3 : (m1.1 187 1).toInt = (m.1 187 1).toInt := congrArg _ (f1.at (nRS (ρ := 23) rfl rfl))
    have a4 : (m.1 3 3).toInt = (m.1 187 1).toInt := congrArg _ I.2.1.2.2.1
    unfold RoC at R ⊢
    omega)
theorem on_master (c : Nat) (x1 : Int32) : Both ad d μX11_master μX12_master [.int x1] (InvR c) (InvR (c + 1)) := kj_both (P1 := fun m v m1 => WT m1 ∧ Fx (RS [9]) m m1 ∧ (((v.toInt = -1 ∨ v.toInt = -2) ∧ (m1.1 0 18).toInt = (m.1 0 18).toInt) ∨ (0 ≤ v.toInt ∧ (m1.1 0 18).toInt = 3))) (P2 := fun m v m1 w m2 => Fx (RS [20, 26]) m1 m2 ∧ (((w.toInt = -1 ∨ w.toInt = -2) ∧ (m2.1 187 16).toInt = (m1.1 187 16).toInt) ∨ (0 ≤ w.toInt ∧ (m2.1 187 16).toInt = 3))) (og_master c x1) (fun m I => (n_X11_master I.1).to (fun r m1 h => by
    obtain ⟨w1, f1, v, rfl, p⟩ := h
    exact ⟨v, rfl, w1, f1, p⟩)) (fun m v m1 I p => (n_X12_master p.1).to (fun r m2 h => by
    obtain ⟨w2, f2, w, rfl, q⟩ := h
    exact ⟨w, rfl, f2, q⟩)) (fun m v m1 m2 I R p q => by
    obtain ⟨w1, f1, p⟩ := p
    obtain ⟨f2, q⟩ := q
    have a1 : (m1.1 187 16).toInt = (m.1 187 16).toInt := congrArg _ (f1.at (nRS (ρ := 26) rfl rfl))
    have a2 : (m2.1 0 18).toInt = (m1.1 0 18).toInt := congrArg _ (f2.at (nRS (ρ := 9) rfl rfl))
    have a3 : (m1.1 187 1).toInt = (m.1 187 1).toInt := congrArg _ (f1.at (nRS (ρ := 23) rfl rfl))
    have a4 : (m.1 3 3).toInt = (m.1 187 1).toInt := congrArg _ I.2.1.2.2.1
    unfold RoC at R ⊢
    omega)
theorem on_table (c : Nat) : Both ad d μX11_table μX12_table [] (InvR c) (InvR (c + 1)) := kj_both (P1 := fun m v m1 => WT m1 ∧ Fx (RS [9, 14]) m m1 ∧ ((m1.1 0 18).toInt = (m.1 3 3).toInt)) (P2 := fun m v m1 w m2 => Fx (RS [20, 22, 26, 28]) m1 m2 ∧ ((m2.1 187 16).toInt = (m1.1 187 1).toInt)) (os_table (KX.kd c KG.kd)) (fun m I => (n_X11_table I.1).to (fun r m1 h => by
    obtain ⟨w1, f1, v, rfl, -, p⟩ := h
    exact ⟨v, rfl, w1, f1, p⟩)) (fun m v m1 I p => (n_X12_table p.1).to (fun r m2 h => by
    obtain ⟨w2, f2, w, rfl, -, q⟩ := h
    exact ⟨w, rfl, f2, q⟩)) (fun m v m1 m2 I R p q => by
    obtain ⟨w1, f1, p⟩ := p
    obtain ⟨f2, q⟩ := q
    have a1 : (m1.1 187 16).toInt = (m.1 187 16).toInt := congrArg _ (f1.at (nRS (ρ := 26) rfl rfl))
    have a2 : (m2.1 0 18).toInt = (m1.1 0 18).toInt := congrArg _ (f2.at (nRS (ρ := 9) rfl rfl))
    have a3 : (m1.1 187 1).toInt = (m.1 187 1).toInt := congrArg _ (f1.at (nRS (ρ := 23) rfl rfl))
    have a4 : (m.1 3 3).toInt = (m.1 187 1).toInt := congrArg _ I.2.1.2.2.1
    unfold RoC at R ⊢
    omega)
theorem on_spread (c : Nat) : Both ad d μX11_spread μX12_spread [] (InvR c) (InvR (c + 1)) := kj_both (P1 := fun m v m1 => WT m1 ∧ Fx (RS [9, 14]) m m1 ∧ (((m.1 3 3).toInt = 0 ∧ (m1.1 0 18).toInt = 0) ∨ ((m.1 3 3).toInt ≠ 0 ∧ (m1.1 0 18).toInt = 2))) (P2 := fun m v m1 w m2 => Fx (RS [20, 22, 26, 28, 33]) m1 m2 ∧ (((m1.1 187 1).toInt = 0 ∧ (m2.1 187 16).toInt = 0) ∨ ((m1.1 187 1).toInt ≠ 0 ∧ (m2.1 187 16).toInt = 2))) (og_spread c) (fun m I => (n_X11_spread I.1).to (fun r m1 h => by
    obtain ⟨w1, f1, v, rfl, p⟩ := h
    exact ⟨v, rfl, w1, f1, p⟩)) (fun m v m1 I p => (n_X12_spread p.1).to (fun r m2 h => by
    obtain ⟨w2, f2, w, rfl, q⟩ := h
    exact ⟨w, rfl, f2, q⟩)) (fun m v m1 m2 I R p q => by
    obtain ⟨w1, f1, p⟩ := p
    obtain ⟨f2, q⟩ := q
    have a1 : (m1.1 187 16).toInt = (m.1 187 16).toInt := congrArg _ (f1.at (nRS (ρ := 26) rfl rfl))
    have a2 : (m2.1 0 18).toInt = (m1.1 0 18).toInt := congrArg _ (f2.at (nRS (ρ := 9) rfl rfl))
    have a3 : (m1.1 187 1).toInt = (m.1 187 1).toInt := congrArg _ (f1.at (nRS (ρ := 23) rfl rfl))
    have a4 : (m.1 3 3).toInt = (m.1 187 1).toInt := congrArg _ I.2.1.2.2.1
    unfold RoC at R ⊢
    omega)
theorem on_rest (c : Nat) : Both ad d μX11_rest μX12_rest [] (InvR c) (InvR (c + 1)) := kj_both (P1 := fun m v m1 => WT m1 ∧ Fx (RS [2, 9, 10, 12, 14]) m m1 ∧ (((v.toInt = -1 ∨ v.toInt = -3) ∧ (m1.1 0 18).toInt = (m.1 0 18).toInt) ∨ (0 ≤ v.toInt ∧ (m1.1 0 18).toInt = 2))) (P2 := fun m v m1 w m2 => Fx (RS [20, 22, 24, 26, 28, 34, 35, 49]) m1 m2 ∧ (((w.toInt = -1 ∨ w.toInt = -3) ∧ (m2.1 187 16).toInt = (m1.1 187 16).toInt) ∨ (0 ≤ w.toInt ∧ (m2.1 187 16).toInt = 2))) (og_rest c) (fun m I => (n_X11_rest I.1).to (fun r m1 h => by
    obtain ⟨w1, f1, v, rfl, p⟩ := h
    exact ⟨v, rfl, w1, f1, p⟩)) (fun m v m1 I p => (n_X12_rest p.1).to (fun r m2 h => by
    obtain ⟨w2, f2, w, rfl, q⟩ := h
    exact ⟨w, rfl, f2, q⟩)) (fun m v m1 m2 I R p q => by
    obtain ⟨w1, f1, p⟩ := p
    obtain ⟨f2, q⟩ := q
    have a1 : (m1.1 187 16).toInt = (m.1 187 16).toInt := congrArg _ (f1.at (nRS (ρ := 26) rfl rfl))
    have a2 : (m2.1 0 18).toInt = (m1.1 0 18).toInt := congrArg _ (f2.at (nRS (ρ := 9) rfl rfl))
    have a3 : (m1.1 187 1).toInt = (m.1 187 1).toInt := congrArg _ (f1.at (nRS (ρ := 23) rfl rfl))
    have a4 : (m.1 3 3).toInt = (m.1 187 1).toInt := congrArg _ I.2.1.2.2.1
    unfold RoC at R ⊢
    omega)
theorem on_mean (c : Nat) (x1 x2 : Int32) : Both ad d μX11_mean μX12_mean [.int x1, .int x2] (InvR c) (InvR (c + 1)) := kj_both (P1 := fun m v m1 => WT m1 ∧ Fx (RS [2, 9, 10, 12, 14]) m m1 ∧ (((v.toInt = -1 ∨ v.toInt = -3) ∧ (m1.1 0 18).toInt = (m.1 0 18).toInt) ∨ (0 ≤ v.toInt ∧ (m1.1 0 18).toInt = 2))) (P2 := fun m v m1 w m2 => Fx (RS [20, 22, 24, 26, 28, 34, 35, 49]) m1 m2 ∧ (((w.toInt = -1 ∨ w.toInt = -3) ∧ (m2.1 187 16).toInt = (m1.1 187 16).toInt) ∨ (0 ≤ w.toInt ∧ (m2.1 187 16).toInt = 2))) (og_mean c x1 x2) (fun m I => (n_X11_mean I.1).to (fun r m1 h => by
    obtain ⟨w1, f1, v, rfl, p⟩ := h
    exact ⟨v, rfl, w1, f1, p⟩)) (fun m v m1 I p => (n_X12_mean p.1).to (fun r m2 h => by
    obtain ⟨w2, f2, w, rfl, q⟩ := h
    exact ⟨w, rfl, f2, q⟩)) (fun m v m1 m2 I R p q => by
    obtain ⟨w1, f1, p⟩ := p
    obtain ⟨f2, q⟩ := q
    have a1 : (m1.1 187 16).toInt = (m.1 187 16).toInt := congrArg _ (f1.at (nRS (ρ := 26) rfl rfl))
    have a2 : (m2.1 0 18).toInt = (m1.1 0 18).toInt := congrArg _ (f2.at (nRS (ρ := 9) rfl rfl))
    have a3 : (m1.1 187 1).toInt = (m.1 187 1).toInt := congrArg _ (f1.at (nRS (ρ := 23) rfl rfl))
    have a4 : (m.1 3 3).toInt = (m.1 187 1).toInt := congrArg _ I.2.1.2.2.1
    unfold RoC at R ⊢
    omega)
theorem on_soon (c : Nat) (x1 x2 x3 : Int32) : Both ad d μX11_soon μX12_soon [.int x1, .int x2, .int x3] (InvR c) (InvR (c + 1)) := kj_same (S1 := [2, 10, 12, 14]) (S2 := [20, 22, 24, 28, 34, 35, 49]) (og_soon c x1 x2 x3) (fun m I => (s_X11_soon I.1).to (fun r m1 h => by
    obtain ⟨w1, f1, v, rfl⟩ := h
    exact ⟨w1, f1, v, rfl⟩)) (fun m m1 I w f => (n_X12_soon w).to (fun r m1 h => by
    obtain ⟨w1, f1, v, rfl⟩ := h
    exact ⟨w1, f1, v, rfl⟩)) rfl rfl rfl rfl
theorem on_wins (c : Nat) (x1 x2 x3 : Int32) : Both ad d μX11_wins μX12_wins [.int x1, .int x2, .int x3] (InvR c) (InvR (c + 1)) := kj_both (P1 := fun m v m1 => WT m1 ∧ Fx (RS [2, 9, 12, 14]) m m1 ∧ ((v.toInt = -1 ∧ (m1.1 0 18).toInt = (m.1 0 18).toInt) ∨ (0 ≤ v.toInt ∧ (m1.1 0 18).toInt = 2))) (P2 := fun m v m1 w m2 => Fx (RS [20, 22, 24, 26, 28, 36, 37, 49]) m1 m2 ∧ ((w.toInt = -1 ∧ (m2.1 187 16).toInt = (m1.1 187 16).toInt) ∨ (0 ≤ w.toInt ∧ (m2.1 187 16).toInt = 2))) (kj_str (og_wins c x1 x2 x3) (ob_wins (K0 := fun _ => True) (K0' := fun _ => True) (fun _ _ _ => trivial) c x1 x2 x3) (fun m I => ⟨I.1, I.2.1, trivial, I.2.2.2⟩)) (fun m I => (n_X11_wins I.1).to (fun r m1 h => by
    obtain ⟨w1, f1, v, rfl, p⟩ := h
    exact ⟨v, rfl, w1, f1, p⟩)) (fun m v m1 I p => (n_X12_wins p.1 (I.2.1.1.fx p.2.1 rfl)).to (fun r m2 h => by
    obtain ⟨w2, f2, w, rfl, -, q⟩ := h
    exact ⟨w, rfl, f2, q⟩)) (fun m v m1 m2 I R p q => by
    obtain ⟨w1, f1, p⟩ := p
    obtain ⟨f2, q⟩ := q
    have a1 : (m1.1 187 16).toInt = (m.1 187 16).toInt := congrArg _ (f1.at (nRS (ρ := 26) rfl rfl))
    have a2 : (m2.1 0 18).toInt = (m1.1 0 18).toInt := congrArg _ (f2.at (nRS (ρ := 9) rfl rfl))
    have a3 : (m1.1 187 1).toInt = (m.1 187 1).toInt := congrArg _ (f1.at (nRS (ρ := 23) rfl rfl))
    have a4 : (m.1 3 3).toInt = (m.1 187 1).toInt := congrArg _ I.2.1.2.2.1
    unfold RoC at R ⊢
    omega)
theorem on_hopes (c : Nat) (x1 : Int32) : Both ad d μX11_hopes μX12_hopes [.int x1] (InvR c) (InvR (c + 1)) := kj_both (P1 := fun m v m1 => WT m1 ∧ Fx (RS [2, 9, 12, 14]) m m1 ∧ ((v.toInt = -1 ∧ (m1.1 0 18).toInt = (m.1 0 18).toInt) ∨ (0 ≤ v.toInt ∧ (m1.1 0 18).toInt = 4))) (P2 := fun m v m1 w m2 => Fx (RS [20, 22, 24, 26, 28, 36, 37, 49]) m1 m2 ∧ ((w.toInt = -1 ∧ (m2.1 187 16).toInt = (m1.1 187 16).toInt) ∨ (0 ≤ w.toInt ∧ (m2.1 187 16).toInt = 4))) (kj_str (og_hopes c x1) (ob_hopes (K0 := fun _ => True) (K0' := fun _ => True) (fun _ _ _ => trivial) c x1) (fun m I => ⟨I.1, I.2.1, trivial, I.2.2.2⟩)) (fun m I => (n_X11_hopes I.1).to (fun r m1 h => by
    obtain ⟨w1, f1, v, rfl, p⟩ := h
    exact ⟨v, rfl, w1, f1, p⟩)) (fun m v m1 I p => (n_X12_hopes p.1 (I.2.1.1.fx p.2.1 rfl)).to (fun r m2 h => by
    obtain ⟨w2, f2, w, rfl, -, q⟩ := h
    exact ⟨w, rfl, f2, q⟩)) (fun m v m1 m2 I R p q => by
    obtain ⟨w1, f1, p⟩ := p
    obtain ⟨f2, q⟩ := q
    have a1 : (m1.1 187 16).toInt = (m.1 187 16).toInt := congrArg _ (f1.at (nRS (ρ := 26) rfl rfl))
    have a2 : (m2.1 0 18).toInt = (m1.1 0 18).toInt := congrArg _ (f2.at (nRS (ρ := 9) rfl rfl))
    have a3 : (m1.1 187 1).toInt = (m.1 187 1).toInt := congrArg _ (f1.at (nRS (ρ := 23) rfl rfl))
    have a4 : (m.1 3 3).toInt = (m.1 187 1).toInt := congrArg _ I.2.1.2.2.1
    unfold RoC at R ⊢
    omega)
theorem on_top (c : Nat) (x1 x2 x3 : Int32) : Both ad d μX11_top μX12_top [.int x1, .int x2, .int x3] (InvR c) (InvR (c + 1)) := kj_both (P1 := fun m v m1 => WT m1 ∧ Fx (RS [2, 9, 10, 11, 14, 58]) m m1 ∧ ((v.toInt < 0 ∧ (m1.1 0 18).toInt = (m.1 0 18).toInt) ∨ (0 ≤ v.toInt ∧ ((v.toInt ≤ 10 ∧ (m1.1 0 18).toInt = v.toInt) ∨ (10 < v.toInt ∧ (m1.1 0 18).toInt = 10))))) (P2 := fun m v m1 w m2 => Fx (RS [20, 22, 24, 26, 28, 34, 35, 38, 49]) m1 m2 ∧ ((w.toInt < 0 ∧ (m2.1 187 16).toInt = (m1.1 187 16).toInt) ∨ (0 ≤ w.toInt ∧ ((w.toInt ≤ 10 ∧ (m2.1 187 16).toInt = w.toInt) ∨ (10 < w.toInt ∧ (m2.1 187 16).toInt = 10))))) (og_top c x1 x2 x3) (fun m I => (n_X11_top I.1).to (fun r m1 h => by
    obtain ⟨w1, f1, v, rfl, p⟩ := h
    exact ⟨v, rfl, w1, f1, p⟩)) (fun m v m1 I p => (n_X12_top p.1).to (fun r m2 h => by
    obtain ⟨w2, f2, w, rfl, q⟩ := h
    exact ⟨w, rfl, f2, q⟩)) (fun m v m1 m2 I R p q => by
    obtain ⟨w1, f1, p⟩ := p
    obtain ⟨f2, q⟩ := q
    have a1 : (m1.1 187 16).toInt = (m.1 187 16).toInt := congrArg _ (f1.at (nRS (ρ := 26) rfl rfl))
    have a2 : (m2.1 0 18).toInt = (m1.1 0 18).toInt := congrArg _ (f2.at (nRS (ρ := 9) rfl rfl))
    have a3 : (m1.1 187 1).toInt = (m.1 187 1).toInt := congrArg _ (f1.at (nRS (ρ := 23) rfl rfl))
    have a4 : (m.1 3 3).toInt = (m.1 187 1).toInt := congrArg _ I.2.1.2.2.1
    unfold RoC at R ⊢
    omega)
theorem on_quick (c : Nat) (x1 : Int32) : Both ad d μX11_quick μX12_quick [.int x1] (InvR c) (InvR (c + 1)) := kj_both (P1 := fun m v m1 => WT m1 ∧ Fx (RS [2, 9, 10, 11, 14, 58]) m m1 ∧ ((v.toInt < 0 ∧ (m1.1 0 18).toInt = (m.1 0 18).toInt) ∨ (0 ≤ v.toInt ∧ ((v.toInt ≤ 10 ∧ (m1.1 0 18).toInt = v.toInt) ∨ (10 < v.toInt ∧ (m1.1 0 18).toInt = 10))))) (P2 := fun m v m1 w m2 => Fx (RS [20, 22, 24, 26, 28, 34, 35, 38, 49]) m1 m2 ∧ ((w.toInt < 0 ∧ (m2.1 187 16).toInt = (m1.1 187 16).toInt) ∨ (0 ≤ w.toInt ∧ ((w.toInt ≤ 10 ∧ (m2.1 187 16).toInt = w.toInt) ∨ (10 < w.toInt ∧ (m2.1 187 16).toInt = 10))))) (og_quick c x1) (fun m I => (n_X11_quick I.1).to (fun r m1 h => by
    obtain ⟨w1, f1, v, rfl, p⟩ := h
    exact ⟨v, rfl, w1, f1, p⟩)) (fun m v m1 I p => (n_X12_quick p.1).to (fun r m2 h => by
    obtain ⟨w2, f2, w, rfl, q⟩ := h
    exact ⟨w, rfl, f2, q⟩)) (fun m v m1 m2 I R p q => by
    obtain ⟨w1, f1, p⟩ := p
    obtain ⟨f2, q⟩ := q
    have a1 : (m1.1 187 16).toInt = (m.1 187 16).toInt := congrArg _ (f1.at (nRS (ρ := 26) rfl rfl))
    have a2 : (m2.1 0 18).toInt = (m1.1 0 18).toInt := congrArg _ (f2.at (nRS (ρ := 9) rfl rfl))
    have a3 : (m1.1 187 1).toInt = (m.1 187 1).toInt := congrArg _ (f1.at (nRS (ρ := 23) rfl rfl))
    have a4 : (m.1 3 3).toInt = (m.1 187 1).toInt := congrArg _ I.2.1.2.2.1
    unfold RoC at R ⊢
    omega)
theorem on_all (c : Nat) : Both ad d μX11_all μX12_all [] (InvR c) (InvR (c + 1)) := kj_both (P1 := fun m v m1 => WT m1 ∧ Fx (RS [2, 9, 10, 11, 14, 58]) m m1 ∧ ((v.toInt = -3 ∧ (m1.1 0 18).toInt = (m.1 0 18).toInt) ∨ (0 ≤ v.toInt ∧ (m1.1 0 18).toInt = 3))) (P2 := fun m v m1 w m2 => Fx (RS [20, 22, 24, 26, 28, 34, 35, 49]) m1 m2 ∧ ((w.toInt = -3 ∧ (m2.1 187 16).toInt = (m1.1 187 16).toInt) ∨ (0 ≤ w.toInt ∧ (m2.1 187 16).toInt = 3))) (og_all c) (fun m I => (n_X11_all I.1).to (fun r m1 h => by
    obtain ⟨w1, f1, v, rfl, p⟩ := h
    exact ⟨v, rfl, w1, f1, p⟩)) (fun m v m1 I p => (n_X12_all p.1).to (fun r m2 h => by
    obtain ⟨w2, f2, w, rfl, q⟩ := h
    exact ⟨w, rfl, f2, q⟩)) (fun m v m1 m2 I R p q => by
    obtain ⟨w1, f1, p⟩ := p
    obtain ⟨f2, q⟩ := q
    have a1 : (m1.1 187 16).toInt = (m.1 187 16).toInt := congrArg _ (f1.at (nRS (ρ := 26) rfl rfl))
    have a2 : (m2.1 0 18).toInt = (m1.1 0 18).toInt := congrArg _ (f2.at (nRS (ρ := 9) rfl rfl))
    have a3 : (m1.1 187 1).toInt = (m.1 187 1).toInt := congrArg _ (f1.at (nRS (ρ := 23) rfl rfl))
    have a4 : (m.1 3 3).toInt = (m.1 187 1).toInt := congrArg _ I.2.1.2.2.1
    unfold RoC at R ⊢
    omega)
theorem on_next (c : Nat) (x1 : Int32) : Both ad d μX11_next μX12_next [.int x1] (InvR c) (InvR (c + 1)) := kj_both (P1 := fun m v m1 => WT m1 ∧ Fx (RS [2, 5, 9, 14]) m m1 ∧ (((x1.toInt < 0 ∨ (m.1 3 3).toInt ≤ x1.toInt ∨ (m.1 3 3).toInt < 2) ∧ (m1.1 0 18).toInt = (m.1 0 18).toInt) ∨ (0 ≤ x1.toInt ∧ x1.toInt < (m.1 3 3).toInt ∧ 2 ≤ (m.1 3 3).toInt ∧ (m1.1 0 18).toInt = 1))) (P2 := fun m v m1 w m2 => Fx (RS [20, 22, 24, 26, 28, 34, 49]) m1 m2 ∧ (((x1.toInt < 0 ∨ (m1.1 187 1).toInt ≤ x1.toInt ∨ (m1.1 187 1).toInt < 2) ∧ (m2.1 187 16).toInt = (m1.1 187 16).toInt) ∨ (0 ≤ x1.toInt ∧ x1.toInt < (m1.1 187 1).toInt ∧ 2 ≤ (m1.1 187 1).toInt ∧ (m2.1 187 16).toInt = 1))) (og_next c x1) (fun m I => (n_X11_next I.1).to (fun r m1 h => by
    obtain ⟨w1, f1, v, rfl, p⟩ := h
    exact ⟨v, rfl, w1, f1, p⟩)) (fun m v m1 I p => (n_X12_next p.1).to (fun r m2 h => by
    obtain ⟨w2, f2, w, rfl, q⟩ := h
    exact ⟨w, rfl, f2, q⟩)) (fun m v m1 m2 I R p q => by
    obtain ⟨w1, f1, p⟩ := p
    obtain ⟨f2, q⟩ := q
    have a1 : (m1.1 187 16).toInt = (m.1 187 16).toInt := congrArg _ (f1.at (nRS (ρ := 26) rfl rfl))
    have a2 : (m2.1 0 18).toInt = (m1.1 0 18).toInt := congrArg _ (f2.at (nRS (ρ := 9) rfl rfl))
    have a3 : (m1.1 187 1).toInt = (m.1 187 1).toInt := congrArg _ (f1.at (nRS (ρ := 23) rfl rfl))
    have a4 : (m.1 3 3).toInt = (m.1 187 1).toInt := congrArg _ I.2.1.2.2.1
    unfold RoC at R ⊢
    omega)
theorem on_seen (c : Nat) (x1 x2 x3 : Int32) : Both ad d μX11_seen μX12_seen [.int x1, .int x2, .int x3] (InvR c) (InvR (c + 1)) := kj_same (S1 := [8, 56]) (S2 := [20, 39, 57]) (og_seen c x1 x2 x3) (fun m I => (s_X11_seen I.1).to (fun r m1 h => by
    obtain ⟨w1, f1, v, rfl, -⟩ := h
    exact ⟨w1, f1, v, rfl⟩)) (fun m m1 I w f => (s_X12_seen w).to (fun r m1 h => by
    obtain ⟨w1, f1, v, rfl, -⟩ := h
    exact ⟨w1, f1, v, rfl⟩)) rfl rfl rfl rfl
theorem on_found (c : Nat) : Both ad d μX11_found μX12_found [] (InvR c) (InvR (c + 1)) := kj_both (P1 := fun m v m1 => WT m1 ∧ Fx (RS [9, 14]) m m1 ∧ ((m1.1 0 18).toInt = 3)) (P2 := fun m v m1 w m2 => Fx (RS [20, 22, 26, 28]) m1 m2 ∧ ((m2.1 187 16).toInt = 3)) (og_found c) (fun m I => (n_X11_found I.1).to (fun r m1 h => by
    obtain ⟨w1, f1, v, rfl, p⟩ := h
    exact ⟨v, rfl, w1, f1, p⟩)) (fun m v m1 I p => (n_X12_found p.1).to (fun r m2 h => by
    obtain ⟨w2, f2, w, rfl, q⟩ := h
    exact ⟨w, rfl, f2, q⟩)) (fun m v m1 m2 I R p q => by
    obtain ⟨w1, f1, p⟩ := p
    obtain ⟨f2, q⟩ := q
    have a1 : (m1.1 187 16).toInt = (m.1 187 16).toInt := congrArg _ (f1.at (nRS (ρ := 26) rfl rfl))
    have a2 : (m2.1 0 18).toInt = (m1.1 0 18).toInt := congrArg _ (f2.at (nRS (ρ := 9) rfl rfl))
    have a3 : (m1.1 187 1).toInt = (m.1 187 1).toInt := congrArg _ (f1.at (nRS (ρ := 23) rfl rfl))
    have a4 : (m.1 3 3).toInt = (m.1 187 1).toInt := congrArg _ I.2.1.2.2.1
    unfold RoC at R ⊢
    omega)
theorem on_prize (c : Nat) : Both ad d μX11_prize μX12_prize [] (InvR c) (InvR (c + 1)) := kj_both (P1 := fun m v m1 => WT m1 ∧ Fx (RS [9]) m m1 ∧ ((v.toInt = -2 ∧ (m1.1 0 18).toInt = (m.1 0 18).toInt) ∨ (0 ≤ v.toInt ∧ (m1.1 0 18).toInt = 2))) (P2 := fun m v m1 w m2 => Fx (RS [20, 26]) m1 m2 ∧ ((w.toInt = -2 ∧ (m2.1 187 16).toInt = (m1.1 187 16).toInt) ∨ (0 ≤ w.toInt ∧ (m2.1 187 16).toInt = 2))) (og_prize c) (fun m I => (n_X11_prize I.1).to (fun r m1 h => by
    obtain ⟨w1, f1, v, rfl, p⟩ := h
    exact ⟨v, rfl, w1, f1, p⟩)) (fun m v m1 I p => (n_X12_prize p.1).to (fun r m2 h => by
    obtain ⟨w2, f2, w, rfl, q⟩ := h
    exact ⟨w, rfl, f2, q⟩)) (fun m v m1 m2 I R p q => by
    obtain ⟨w1, f1, p⟩ := p
    obtain ⟨f2, q⟩ := q
    have a1 : (m1.1 187 16).toInt = (m.1 187 16).toInt := congrArg _ (f1.at (nRS (ρ := 26) rfl rfl))
    have a2 : (m2.1 0 18).toInt = (m1.1 0 18).toInt := congrArg _ (f2.at (nRS (ρ := 9) rfl rfl))
    have a3 : (m1.1 187 1).toInt = (m.1 187 1).toInt := congrArg _ (f1.at (nRS (ρ := 23) rfl rfl))
    have a4 : (m.1 3 3).toInt = (m.1 187 1).toInt := congrArg _ I.2.1.2.2.1
    unfold RoC at R ⊢
    omega)
theorem on_laws (c : Nat) (x1 : Int32) : Both ad d μX11_laws μX12_laws [.int x1] (InvR c) (InvR (c + 1)) := kj_both (P1 := fun m v m1 => WT m1 ∧ Fx (RS [2, 5, 9, 14, 43]) m m1 ∧ ((v.toInt = -1 ∧ (m1.1 0 18).toInt = (m.1 0 18).toInt) ∨ (0 ≤ v.toInt ∧ (m1.1 0 18).toInt = 4))) (P2 := fun m v m1 w m2 => Fx (RS [20, 22, 24, 26, 28, 29, 30, 31, 47, 49]) m1 m2 ∧ ((w.toInt = -1 ∧ (m2.1 187 16).toInt = (m1.1 187 16).toInt) ∨ (0 ≤ w.toInt ∧ (m2.1 187 16).toInt = 4))) (og_laws c x1) (fun m I => (n_X11_laws I.1).to (fun r m1 h => by
    obtain ⟨w1, f1, v, rfl, p⟩ := h
    exact ⟨v, rfl, w1, f1, p⟩)) (fun m v m1 I p => (n_X12_laws p.1).to (fun r m2 h => by
    obtain ⟨w2, f2, w, rfl, q⟩ := h
    exact ⟨w, rfl, f2, q⟩)) (fun m v m1 m2 I R p q => by
    obtain ⟨w1, f1, p⟩ := p
    obtain ⟨f2, q⟩ := q
    have a1 : (m1.1 187 16).toInt = (m.1 187 16).toInt := congrArg _ (f1.at (nRS (ρ := 26) rfl rfl))
    have a2 : (m2.1 0 18).toInt = (m1.1 0 18).toInt := congrArg _ (f2.at (nRS (ρ := 9) rfl rfl))
    have a3 : (m1.1 187 1).toInt = (m.1 187 1).toInt := congrArg _ (f1.at (nRS (ρ := 23) rfl rfl))
    have a4 : (m.1 3 3).toInt = (m.1 187 1).toInt := congrArg _ I.2.1.2.2.1
    unfold RoC at R ⊢
    omega)
theorem on_seed (c : Nat) (x1 : Int32) : Both ad d μX11_seed μX12_seed [.int x1] (InvR c) (InvR (c + 1)) := kj_same (S1 := [4]) (S2 := [20, 49]) (og_seed c x1) (fun m I => (s_X11_seed I.1).to (fun r m1 h => by
    obtain ⟨w1, f1, v, rfl⟩ := h
    exact ⟨w1, f1, v, rfl⟩)) (fun m m1 I w f => (s_X12_seed w).to (fun r m1 h => by
    obtain ⟨w1, f1, v, rfl⟩ := h
    exact ⟨w1, f1, v, rfl⟩)) rfl rfl rfl rfl
theorem on_keep (c : Nat) (x1 : Int32) : Both ad d μX11_keep μX12_keep [.int x1] (InvR c) (InvR (c + 1)) := kj_same (S1 := [13]) (S2 := [20, 40]) (og_keep c x1) (fun m I => (s_X11_keep I.1).to (fun r m1 h => by
    obtain ⟨w1, f1, v, rfl, -⟩ := h
    exact ⟨w1, f1, v, rfl⟩)) (fun m m1 I w f => (s_X12_keep w).to (fun r m1 h => by
    obtain ⟨w1, f1, v, rfl, -⟩ := h
    exact ⟨w1, f1, v, rfl⟩)) rfl rfl rfl rfl
theorem on_again (c : Nat) (x1 : Int32) : Both ad d μX11_again μX12_again [.int x1] (InvR c) (InvR (c + 1)) := kj_same (S1 := [4, 42, 43, 44, 53]) (S2 := [20, 24, 29, 46, 47, 49, 52]) (og_again c x1) (fun m I => (s_X11_again I.1).to (fun r m1 h => by
    obtain ⟨w1, f1, v, rfl, -⟩ := h
    exact ⟨w1, f1, v, rfl⟩)) (fun m m1 I w f => (s_X12_again w).to (fun r m1 h => by
    obtain ⟨w1, f1, v, rfl, -⟩ := h
    exact ⟨w1, f1, v, rfl⟩)) rfl rfl rfl rfl
theorem on_best (c : Nat) (x1 x2 : Int32) : Both ad d μX11_best μX12_best [.int x1, .int x2] (InvR c) (InvR (c + 1)) := fun m I => by
  obtain ⟨I, R⟩ := I
  have og := og_best (ad := ad) (d := d) c x1 x2 m I
  obtain ⟨w, I1, ⟨g, v, H, kd⟩, kb⟩ := I
  obtain ⟨op, px⟩ := plO_of kb.1 kd.2.2.1
  refine kj_at (P1 := fun _ m1 => WT m1 ∧ Fx (RS [2, 9, 10, 11, 14, 58]) m m1 ∧ ((bstR v x1 x2 g ∧ (m1.1 0 18).toInt = (m.1 0 18).toInt) ∨ (¬ bstR v x1 x2 g ∧ (m1.1 0 18).toInt = 1))) (P2 := fun _ m1 _ m2 => Fx (RS [20, 22, 24, 26, 28, 34, 35, 49]) m1 m2 ∧ ((bstR v x1 x2 g ∧ (m2.1 187 16).toInt = (m1.1 187 16).toInt) ∨ (¬ bstR v x1 x2 g ∧ (m2.1 187 16).toInt = 1))) og ((n_bestC (d := d + 293) w I1.2.2.2.2.2.2 kd.1 kd.2.2.1 kd.2.2.2.2.2.2.1).to (fun r m1 h => by
    obtain ⟨w1, f1, ⟨z, rfl⟩, p⟩ := h
    exact ⟨z, rfl, w1, f1, p⟩)) (fun z m1 p => ?_) (fun z m1 m2 p q => ?_)
  · obtain ⟨w1, f1, -⟩ := p
    have kd1 := kd.fx f1 rfl
    refine (n_bestM (d := d + 122) w1 kd1.2.1 kd1.2.2.2.1 kd1.2.2.2.2.2.2.1).to (fun r m2 h => ?_)
    obtain ⟨w2, f2, ⟨z, rfl⟩, q⟩ := h
    exact ⟨z, rfl, f2, q⟩
  · obtain ⟨w1, f1, p⟩ := p
    obtain ⟨f2, q⟩ := q
    have a1 : (m1.1 187 16).toInt = (m.1 187 16).toInt := congrArg _ (f1.at (nRS (ρ := 26) rfl rfl))
    have a2 : (m2.1 0 18).toInt = (m1.1 0 18).toInt := congrArg _ (f2.at (nRS (ρ := 9) rfl rfl))
    unfold RoC at R ⊢
    rcases p with ⟨n, p⟩ | ⟨n, p⟩ <;> rcases q with ⟨n', q⟩ | ⟨n', q⟩
    · omega
    · exact absurd n n'
    · exact absurd n' n
    · omega
theorem on_even (c : Nat) (x1 : Int32) : Both ad d μX11_even μX12_even [.int x1] (InvR c) (InvR (c + 1)) := fun m I => by
  obtain ⟨I, R⟩ := I
  have og := og_even (ad := ad) (d := d) c x1 m I
  obtain ⟨w, I1, ⟨g, v, H, kd⟩, kb⟩ := I
  obtain ⟨op, px⟩ := plO_of kb.1 kd.2.2.1
  refine kj_at (P1 := fun _ m1 => WT m1 ∧ Fx (RS [2, 9, 10, 11, 14, 58]) m m1 ∧ ((evnR v x1 g ∧ (m1.1 0 18).toInt = (m.1 0 18).toInt) ∨ (¬ evnR v x1 g ∧ (m1.1 0 18).toInt = 1))) (P2 := fun _ m1 _ m2 => Fx (RS [20, 22, 24, 26, 28, 34, 35, 49, 33]) m1 m2 ∧ ((evnR v x1 g ∧ (m2.1 187 16).toInt = (m1.1 187 16).toInt) ∨ (¬ evnR v x1 g ∧ (m2.1 187 16).toInt = 1))) og ((n_evenC (d := d + 293) w I1.2.2.2.2.2.2 kd.1 kd.2.2.1 kd.2.2.2.2.2.2.1).to (fun r m1 h => by
    obtain ⟨w1, f1, ⟨z, rfl⟩, p⟩ := h
    exact ⟨z, rfl, w1, f1, p⟩)) (fun z m1 p => ?_) (fun z m1 m2 p q => ?_)
  · obtain ⟨w1, f1, -⟩ := p
    have kd1 := kd.fx f1 rfl
    refine (n_evenM (d := d + 122) w1 kd1.2.1 kd1.2.2.2.1 kd1.2.2.2.2.2.2.1).to (fun r m2 h => ?_)
    obtain ⟨w2, f2, ⟨z, rfl⟩, q⟩ := h
    exact ⟨z, rfl, f2, q⟩
  · obtain ⟨w1, f1, p⟩ := p
    obtain ⟨f2, q⟩ := q
    have a1 : (m1.1 187 16).toInt = (m.1 187 16).toInt := congrArg _ (f1.at (nRS (ρ := 26) rfl rfl))
    have a2 : (m2.1 0 18).toInt = (m1.1 0 18).toInt := congrArg _ (f2.at (nRS (ρ := 9) rfl rfl))
    unfold RoC at R ⊢
    rcases p with ⟨n, p⟩ | ⟨n, p⟩ <;> rcases q with ⟨n', q⟩ | ⟨n', q⟩
    · omega
    · exact absurd n n'
    · exact absurd n' n
    · omega
theorem on_pays (c : Nat) (x1 x2 : Int32) : Both ad d μX11_pays μX12_pays [.int x1, .int x2] (InvR c) (InvR (c + 1)) := fun m I => by
  obtain ⟨I, R⟩ := I
  have og := og_pays (ad := ad) (d := d) c x1 x2 m I
  obtain ⟨w, I1, ⟨g, v, H, kd⟩, kb⟩ := I
  obtain ⟨op, px⟩ := plO_of kb.1 kd.2.2.1
  refine kj_at (P1 := fun _ m1 => WT m1 ∧ Fx (RS [2, 5, 9, 14, 42]) m m1 ∧ ((payR v op x1 x2 ∧ (m1.1 0 18).toInt = (m.1 0 18).toInt) ∨ (¬ payR v op x1 x2 ∧ (m1.1 0 18).toInt = 2))) (P2 := fun _ m1 _ m2 => Fx (RS [20, 22, 24, 26, 28, 29, 30, 31, 46, 49]) m1 m2 ∧ ((payR v op x1 x2 ∧ (m2.1 187 16).toInt = (m1.1 187 16).toInt) ∨ (¬ payR v op x1 x2 ∧ (m2.1 187 16).toInt = 2))) og ((n_paysC (d := d + 294) w kd.2.2.1 px).to (fun r m1 h => by
    obtain ⟨w1, f1, ⟨z, rfl⟩, p⟩ := h
    exact ⟨z, rfl, w1, f1, p⟩)) (fun z m1 p => ?_) (fun z m1 m2 p q => ?_)
  · obtain ⟨w1, f1, -⟩ := p
    have em1 := kd.2.2.2.1.fx f1 rfl
    refine (n_paysM (d := d) w1 em1 (px.fx f1 rfl rfl rfl rfl)).to (fun r m2 h => ?_)
    obtain ⟨w2, f2, ⟨z, rfl⟩, q⟩ := h
    exact ⟨z, rfl, f2, q⟩
  · obtain ⟨w1, f1, p⟩ := p
    obtain ⟨f2, q⟩ := q
    have a1 : (m1.1 187 16).toInt = (m.1 187 16).toInt := congrArg _ (f1.at (nRS (ρ := 26) rfl rfl))
    have a2 : (m2.1 0 18).toInt = (m1.1 0 18).toInt := congrArg _ (f2.at (nRS (ρ := 9) rfl rfl))
    unfold RoC at R ⊢
    rcases p with ⟨n, p⟩ | ⟨n, p⟩ <;> rcases q with ⟨n', q⟩ | ⟨n', q⟩
    · omega
    · exact absurd n n'
    · exact absurd n' n
    · omega
theorem kj_cnt {x1 y : Int32} {m : Wm} {J : Wm → Prop} (hJ : J (uI m 187 17 0)) (h0 : x1 = 0 → m.1 187 1 = y) (h1 : x1 = 1 → m.1 187 0 = y) (h2 : x1 = 2 → m.1 187 11 = y) (h3 : x1 = 3 → m.1 187 12 = y) (h4 : x1 = 4 → m.1 187 30 = y) (h5 : x1 = 5 → m.1 187 52 = y) (h6 : x1 = 6 → m.1 187 16 = y) (h7 : x1 = 7 → m.1 187 14 = y) (h8 : x1 = 8 → m.1 187 10 = y) (h9 : ¬ x1 = 0 → ¬ x1 = 1 → ¬ x1 = 2 → ¬ x1 = 3 → ¬ x1 = 4 → ¬ x1 = 5 → ¬ x1 = 6 → ¬ x1 = 7 → ¬ x1 = 8 → -1 = y) : Ct ad μX12_count d [.ref (ad 187), .int x1] m (fun r m2 => r = some (.int y) ∧ J m2) :=
  v_X12_count ⟨fun e => ⟨by rw [← h0 e]; rfl, hJ⟩, fun e => ⟨by rw [← h1 e]; rfl, hJ⟩, fun e => ⟨by rw [← h2 e]; rfl, hJ⟩, fun e => ⟨by rw [← h3 e]; rfl, hJ⟩, fun e => ⟨by rw [← h4 e]; rfl, hJ⟩, fun e => ⟨by rw [← h5 e]; rfl, hJ⟩, fun e => ⟨by rw [← h6 e]; rfl, hJ⟩, fun e => ⟨by rw [← h7 e]; rfl, hJ⟩, fun e => ⟨by rw [← h8 e]; rfl, hJ⟩, fun n0 n1 n2 n3 n4 n5 n6 n7 n8 => ⟨by rw [h9 n0 n1 n2 n3 n4 n5 n6 n7 n8], hJ⟩⟩
theorem on_count (c : Nat) (x1 : Int32) : Both ad d μX11_count μX12_count [.int x1] (InvR c) (InvR (c + 1)) := fun m I => by
  obtain ⟨I, R⟩ := I
  have w1 : WT (uI m 187 17 0) := I.1.n rfl
  have f1 : Fx (RS [20]) m (uI m 187 17 0) := Fx.i Fx.rf rfl
  have J : InvR (c + 1) (uI m 187 17 0) := ⟨⟨w1, I.2.1.f2 (S1 := []) Fx.rf f1 rfl rfl, KX.kd c KG.kd (S1 := []) Fx.rf f1 I.2.2 rfl rfl⟩, R⟩
  obtain ⟨w, ⟨i1, i2, i3, i4, i5, i6, i7⟩, ⟨g, v, H, hc, hm, ec, em, uc, um, zb, zh, kp, nx⟩, ⟨P, Q, hR, X⟩, kb2⟩ := I
  obtain ⟨q1, q2, -⟩ := hR.pl
  obtain ⟨n, R5, gn, sn, y1, y2, y3, y4, y5, y6, -⟩ := X
  obtain ⟨nr, R2, n1, n2, -⟩ := nx
  exact v_X11_count ⟨fun e => ⟨_, rfl, kj_cnt J (fun _ => i3.symm) (fun q => absurd (e.symm.trans q) (by decide)) (fun q => absurd (e.symm.trans q) (by decide)) (fun q => absurd (e.symm.trans q) (by decide)) (fun q => absurd (e.symm.trans q) (by decide)) (fun q => absurd (e.symm.trans q) (by decide)) (fun q => absurd (e.symm.trans q) (by decide)) (fun q => absurd (e.symm.trans q) (by decide)) (fun q => absurd (e.symm.trans q) (by decide)) (fun n _ _ _ _ _ _ _ _ => absurd e n)⟩, fun e => ⟨_, rfl, kj_cnt J (fun q => absurd (e.symm.trans q) (by decide)) (fun _ => i4.symm) (fun q => absurd (e.symm.trans q) (by decide)) (fun q => absurd (e.symm.trans q) (by decide)) (fun q => absurd (e.symm.trans q) (by decide)) (fun q => absurd (e.symm.trans q) (by decide)) (fun q => absurd (e.symm.trans q) (by decide)) (fun q => absurd (e.symm.trans q) (by decide)) (fun q => absurd (e.symm.trans q) (by decide)) (fun _ n _ _ _ _ _ _ _ => absurd e n)⟩, fun e => ⟨P, q1, q2, ⟨_, rfl, kj_cnt J (fun q => absurd (e.symm.trans q) (by decide)) (fun q => absurd (e.symm.trans q) (by decide)) (fun _ => y4.trans y3.symm) (fun q => absurd (e.symm.trans q) (by decide)) (fun q => absurd (e.symm.trans q) (by decide)) (fun q => absurd (e.symm.trans q) (by decide)) (fun q => absurd (e.symm.trans q) (by decide)) (fun q => absurd (e.symm.trans q) (by decide)) (fun q => absurd (e.symm.trans q) (by decide)) (fun _ _ n _ _ _ _ _ _ => absurd e n)⟩⟩, fun e => ⟨_, rfl, kj_cnt J (fun q => absurd (e.symm.trans q) (by decide)) (fun q => absurd (e.symm.trans q) (by decide)) (fun q => absurd (e.symm.trans q) (by decide)) (fun _ => n2.trans n1.symm) (fun q => absurd (e.symm.trans q) (by decide)) (fun q => absurd (e.symm.trans q) (by decide)) (fun q => absurd (e.symm.trans q) (by decide)) (fun q => absurd (e.symm.trans q) (by decide)) (fun q => absurd (e.symm.trans q) (by decide)) (fun _ _ _ n _ _ _ _ _ => absurd e n)⟩, fun e => ⟨_, rfl, kj_cnt J (fun q => absurd (e.symm.trans q) (by decide)) (fun q => absurd (e.symm.trans q) (by decide)) (fun q => absurd (e.symm.trans q) (by decide)) (fun q => absurd (e.symm.trans q) (by decide)) (fun _ => um.1.trans uc.2.1.symm) (fun q => absurd (e.symm.trans q) (by decide)) (fun q => absurd (e.symm.trans q) (by decide)) (fun q => absurd (e.symm.trans q) (by decide)) (fun q => absurd (e.symm.trans q) (by decide)) (fun _ _ _ _ n _ _ _ _ => absurd e n)⟩, fun e => ⟨_, rfl, kj_cnt J (fun q => absurd (e.symm.trans q) (by decide)) (fun q => absurd (e.symm.trans q) (by decide)) (fun q => absurd (e.symm.trans q) (by decide)) (fun q => absurd (e.symm.trans q) (by decide)) (fun q => absurd (e.symm.trans q) (by decide)) (fun _ => i5.symm) (fun q => absurd (e.symm.trans q) (by decide)) (fun q => absurd (e.symm.trans q) (by decide)) (fun q => absurd (e.symm.trans q) (by decide)) (fun _ _ _ _ _ n _ _ _ => absurd e n)⟩, fun e => ⟨_, rfl, kj_cnt J (fun q => absurd (e.symm.trans q) (by decide)) (fun q => absurd (e.symm.trans q) (by decide)) (fun q => absurd (e.symm.trans q) (by decide)) (fun q => absurd (e.symm.trans q) (by decide)) (fun q => absurd (e.symm.trans q) (by decide)) (fun q => absurd (e.symm.trans q) (by decide)) (fun _ => ((fa_eq _ _).mpr R).symm) (fun q => absurd (e.symm.trans q) (by decide)) (fun q => absurd (e.symm.trans q) (by decide)) (fun _ _ _ _ _ _ n _ _ => absurd e n)⟩, fun e => ⟨_, rfl, kj_cnt J (fun q => absurd (e.symm.trans q) (by decide)) (fun q => absurd (e.symm.trans q) (by decide)) (fun q => absurd (e.symm.trans q) (by decide)) (fun q => absurd (e.symm.trans q) (by decide)) (fun q => absurd (e.symm.trans q) (by decide)) (fun q => absurd (e.symm.trans q) (by decide)) (fun q => absurd (e.symm.trans q) (by decide)) (fun _ => i2.1.symm) (fun q => absurd (e.symm.trans q) (by decide)) (fun _ _ _ _ _ _ _ n _ => absurd e n)⟩, fun e => ⟨P, q1, q2, ⟨_, rfl, kj_cnt J (fun q => absurd (e.symm.trans q) (by decide)) (fun q => absurd (e.symm.trans q) (by decide)) (fun q => absurd (e.symm.trans q) (by decide)) (fun q => absurd (e.symm.trans q) (by decide)) (fun q => absurd (e.symm.trans q) (by decide)) (fun q => absurd (e.symm.trans q) (by decide)) (fun q => absurd (e.symm.trans q) (by decide)) (fun q => absurd (e.symm.trans q) (by decide)) (fun _ => y6.trans y5.symm) (fun _ _ _ _ _ _ _ _ n => absurd e n)⟩⟩, fun n0 n1 n2 n3 n4 n5 n6 n7 n8 => ⟨_, rfl, kj_cnt J (fun q => absurd q n0) (fun q => absurd q n1) (fun q => absurd q n2) (fun q => absurd q n3) (fun q => absurd q n4) (fun q => absurd q n5) (fun q => absurd q n6) (fun q => absurd q n7) (fun q => absurd q n8) (fun _ _ _ _ _ _ _ _ _ => rfl)⟩⟩
theorem RoC.f2 {m m1 m2 : Wm} {S1 S2 : List Nat} (h : RoC m) (f1 : Fx (RS S1) m m1) (f2 : Fx (RS S2) m1 m2) (e1 : S1.elem 9 = false) (e2 : S1.elem 26 = false) (e3 : S2.elem 9 = false) (e4 : S2.elem 26 = false) : RoC m2 := by
  unfold RoC at h ⊢
  rw [f2.at (a := 0) (k := 18) (nRS (ρ := 9) e3 rfl), f1.at (a := 0) (k := 18) (nRS (ρ := 9) e1 rfl), f2.at (a := 187) (k := 16) (nRS (ρ := 26) e4 rfl), f1.at (a := 187) (k := 16) (nRS (ρ := 26) e2 rfl)]
  exact h
end ONR
