/-! THE 44 CALLS KEEP THE INVARIANT -/
section OPW
variable {ad : Nat → Nat} {d : Nat}
def Inv (m : Wm) : Prop := WT m ∧ ((m.1 187 11).toInt = 0 ∨ 1 ≤ (m.1 187 10).toInt) ∧ (m.1 1 1).toInt = (m.1 187 14).toInt
theorem nRS {S : List Nat} {a k ρ : Nat} (h : S.elem ρ = false) (e : rg a k = ρ) : ¬ RS S a k := fun q => by unfold RS at q; rw [e, h] at q; cases q
theorem rg_keep {m m1 : Wm} {S : List Nat} (h : (m.1 187 11).toInt = 0 ∨ 1 ≤ (m.1 187 10).toInt) (f : Fx (RS S) m m1) (e : S.elem 25 = false) : (m1.1 187 11).toInt = 0 ∨ 1 ≤ (m1.1 187 10).toInt := by
  rw [f.at (a := 187) (k := 11) (nRS e rfl), f.at (a := 187) (k := 10) (nRS e rfl)]
  exact h
theorem c11 {m m1 : Wm} {S : List Nat} (f : Fx (RS S) m m1) (e : S.elem 0 = false) : m1.1 1 1 = m.1 1 1 := f.at (nRS e rfl)
theorem c14 {m m1 : Wm} {S : List Nat} (f : Fx (RS S) m m1) (e : S.elem 21 = false) : m1.1 187 14 = m.1 187 14 := f.at (nRS e rfl)
theorem inv_len {m m1 m2 : Wm} {S1 S2 : List Nat} (h : Inv m) (f1 : Fx (RS S1) m m1) (f2 : Fx (RS S2) m1 m2) (a1 : S1.elem 0 = false) (a2 : S1.elem 21 = false) (a3 : S2.elem 0 = false) (a4 : S2.elem 21 = false) : (m2.1 1 1).toInt = (m2.1 187 14).toInt := by
  rw [c11 f2 a3, c11 f1 a1, c14 f2 a4, c14 f1 a2]
  exact h.2.2
theorem inv_gen {m m1 m2 : Wm} {S1 S2 : List Nat} (h : Inv m) (f1 : Fx (RS S1) m m1) (f2 : Fx (RS S2) m1 m2) (w2 : WT m2) (a1 : S1.elem 0 = false) (a2 : S1.elem 21 = false) (a3 : S2.elem 0 = false) (a4 : S2.elem 21 = false) (a5 : S1.elem 25 = false) (a6 : S2.elem 25 = false) : Inv m2 :=
  ⟨w2, rg_keep (rg_keep h.2.1 f1 a5) f2 a6, inv_len h f1 f2 a1 a2 a3 a4⟩
theorem rg_or {m1 m2 : Wm} (h : (m1.1 187 11).toInt = 0 ∨ 1 ≤ (m1.1 187 10).toInt) (q : (m2.1 187 10 = m1.1 187 10 ∧ m2.1 187 11 = m1.1 187 11) ∨ (m2.1 187 11).toInt = 0 ∨ 1 ≤ (m2.1 187 10).toInt) : (m2.1 187 11).toInt = 0 ∨ 1 ≤ (m2.1 187 10).toInt := by
  rcases q with ⟨q1, q2⟩ | q | q
  · rw [q1, q2]; exact h
  · exact Or.inl q
  · exact Or.inr q
theorem o_skill : O_skill ad d Inv Inv := fun a b m I => by
  refine (s_X11_skill I.1).to ?_
  rintro _ m1 ⟨w1, f1, v, rfl⟩
  refine ⟨⟨_, rfl⟩, (s_X12_skill w1).to ?_⟩
  rintro _ m2 ⟨w2, f2, v2, rfl⟩
  exact ⟨⟨_, rfl⟩, inv_gen I f1 f2 w2 rfl rfl rfl rfl rfl rfl⟩
theorem o_law : O_law ad d Inv Inv := fun a b m I => by
  refine (s_X11_law I.1).to ?_
  rintro _ m1 ⟨w1, f1, v, rfl⟩
  refine ⟨⟨_, rfl⟩, (s_X12_law w1).to ?_⟩
  rintro _ m2 ⟨w2, f2, v2, rfl⟩
  exact ⟨⟨_, rfl⟩, inv_gen I f1 f2 w2 rfl rfl rfl rfl rfl rfl⟩
theorem o_sheet : O_sheet ad d Inv Inv := fun a b c e f m I => by
  refine (s_X11_sheet I.1).to ?_
  rintro _ m1 ⟨w1, f1, v, rfl⟩
  refine ⟨⟨_, rfl⟩, (s_X12_sheet w1).to ?_⟩
  rintro _ m2 ⟨w2, f2, v2, rfl⟩
  exact ⟨⟨_, rfl⟩, inv_gen I f1 f2 w2 rfl rfl rfl rfl rfl rfl⟩
theorem o_swap : O_swap ad d Inv Inv := fun a b m I => by
  refine (s_X11_swap I.1).to ?_
  rintro _ m1 ⟨w1, f1, v, rfl, -⟩
  refine ⟨⟨_, rfl⟩, (s_X12_swap w1).to ?_⟩
  rintro _ m2 ⟨w2, f2, v2, rfl, -⟩
  exact ⟨⟨_, rfl⟩, inv_gen I f1 f2 w2 rfl rfl rfl rfl rfl rfl⟩
theorem o_game : O_game ad d Inv Inv := fun a b c m I => by
  refine (s_X11_game I.1).to ?_
  rintro _ m1 ⟨w1, f1, v, rfl⟩
  refine ⟨⟨_, rfl⟩, (s_X12_game w1).to ?_⟩
  rintro _ m2 ⟨w2, f2, v2, rfl⟩
  exact ⟨⟨_, rfl⟩, inv_gen I f1 f2 w2 rfl rfl rfl rfl rfl rfl⟩
theorem o_odds : O_odds ad d Inv Inv := fun a b m I => by
  refine (s_X11_odds I.1).to ?_
  rintro _ m1 ⟨w1, f1, v, rfl⟩
  refine ⟨⟨_, rfl⟩, (s_X12_odds w1).to ?_⟩
  rintro _ m2 ⟨w2, f2, v2, rfl⟩
  exact ⟨⟨_, rfl⟩, inv_gen I f1 f2 w2 rfl rfl rfl rfl rfl rfl⟩
theorem o_play : O_play ad d Inv Inv := fun a b c m I => by
  refine (s_X11_play I.1).to ?_
  rintro _ m1 ⟨w1, f1, v, rfl⟩
  refine ⟨⟨_, rfl⟩, (s_X12_play w1).to ?_⟩
  rintro _ m2 ⟨w2, f2, v2, rfl⟩
  exact ⟨⟨_, rfl⟩, inv_gen I f1 f2 w2 rfl rfl rfl rfl rfl rfl⟩
theorem o_undo : O_undo ad d Inv Inv := fun m I => by
  refine (s_X11_undo I.1).to ?_
  rintro _ m1 ⟨w1, f1, v, rfl⟩
  refine ⟨⟨_, rfl⟩, (s_X12_undo w1).to ?_⟩
  rintro _ m2 ⟨w2, f2, v2, rfl⟩
  exact ⟨⟨_, rfl⟩, inv_gen I f1 f2 w2 rfl rfl rfl rfl rfl rfl⟩
theorem o_judge : O_judge ad d Inv Inv := fun a b m I => by
  refine (s_X11_judge I.1).to ?_
  rintro _ m1 ⟨w1, f1, v, rfl⟩
  refine ⟨⟨_, rfl⟩, (s_X12_judge w1).to ?_⟩
  rintro _ m2 ⟨w2, f2, v2, rfl⟩
  exact ⟨⟨_, rfl⟩, inv_gen I f1 f2 w2 rfl rfl rfl rfl rfl rfl⟩
theorem o_beats : O_beats ad d Inv Inv := fun a m I => by
  refine (s_X11_beats I.1).to ?_
  rintro _ m1 ⟨w1, f1, v, rfl⟩
  refine ⟨⟨_, rfl⟩, (s_X12_beats w1).to ?_⟩
  rintro _ m2 ⟨w2, f2, v2, rfl⟩
  exact ⟨⟨_, rfl⟩, inv_gen I f1 f2 w2 rfl rfl rfl rfl rfl rfl⟩
theorem o_kings : O_kings ad d Inv Inv := fun m I => by
  refine (s_X11_kings I.1).to ?_
  rintro _ m1 ⟨w1, f1, v, rfl⟩
  refine ⟨⟨_, rfl⟩, (s_X12_kings w1).to ?_⟩
  rintro _ m2 ⟨w2, f2, v2, rfl⟩
  exact ⟨⟨_, rfl⟩, inv_gen I f1 f2 w2 rfl rfl rfl rfl rfl rfl⟩
theorem o_master : O_master ad d Inv Inv := fun a m I => by
  refine (s_X11_master I.1).to ?_
  rintro _ m1 ⟨w1, f1, v, rfl⟩
  refine ⟨⟨_, rfl⟩, (s_X12_master w1).to ?_⟩
  rintro _ m2 ⟨w2, f2, v2, rfl⟩
  exact ⟨⟨_, rfl⟩, inv_gen I f1 f2 w2 rfl rfl rfl rfl rfl rfl⟩
theorem o_table : O_table ad d Inv Inv := fun m I => by
  refine (s_X11_table I.1).to ?_
  rintro _ m1 ⟨w1, f1, v, rfl⟩
  refine ⟨⟨_, rfl⟩, (s_X12_table w1).to ?_⟩
  rintro _ m2 ⟨w2, f2, v2, rfl⟩
  exact ⟨⟨_, rfl⟩, inv_gen I f1 f2 w2 rfl rfl rfl rfl rfl rfl⟩
theorem o_spread : O_spread ad d Inv Inv := fun m I => by
  refine (s_X11_spread I.1).to ?_
  rintro _ m1 ⟨w1, f1, v, rfl⟩
  refine ⟨⟨_, rfl⟩, (s_X12_spread w1).to ?_⟩
  rintro _ m2 ⟨w2, f2, v2, rfl⟩
  exact ⟨⟨_, rfl⟩, inv_gen I f1 f2 w2 rfl rfl rfl rfl rfl rfl⟩
theorem o_rest : O_rest ad d Inv Inv := fun m I => by
  refine (s_X11_rest I.1).to ?_
  rintro _ m1 ⟨w1, f1, v, rfl⟩
  refine ⟨⟨_, rfl⟩, (s_X12_rest w1).to ?_⟩
  rintro _ m2 ⟨w2, f2, v2, rfl⟩
  exact ⟨⟨_, rfl⟩, inv_gen I f1 f2 w2 rfl rfl rfl rfl rfl rfl⟩
theorem o_mean : O_mean ad d Inv Inv := fun a b m I => by
  refine (s_X11_mean I.1).to ?_
  rintro _ m1 ⟨w1, f1, v, rfl⟩
  refine ⟨⟨_, rfl⟩, (s_X12_mean w1).to ?_⟩
  rintro _ m2 ⟨w2, f2, v2, rfl⟩
  exact ⟨⟨_, rfl⟩, inv_gen I f1 f2 w2 rfl rfl rfl rfl rfl rfl⟩
theorem o_soon : O_soon ad d Inv Inv := fun a b c m I => by
  refine (s_X11_soon I.1).to ?_
  rintro _ m1 ⟨w1, f1, v, rfl⟩
  refine ⟨⟨_, rfl⟩, (s_X12_soon w1).to ?_⟩
  rintro _ m2 ⟨w2, f2, v2, rfl⟩
  exact ⟨⟨_, rfl⟩, inv_gen I f1 f2 w2 rfl rfl rfl rfl rfl rfl⟩
theorem o_wins : O_wins ad d Inv Inv := fun a b c m I => by
  refine (s_X11_wins I.1).to ?_
  rintro _ m1 ⟨w1, f1, v, rfl⟩
  refine ⟨⟨_, rfl⟩, (s_X12_wins w1 (rg_keep I.2.1 f1 rfl)).to ?_⟩
  rintro _ m2 ⟨w2, f2, v2, rfl⟩
  exact ⟨⟨_, rfl⟩, inv_gen I f1 f2 w2 rfl rfl rfl rfl rfl rfl⟩
theorem o_hopes : O_hopes ad d Inv Inv := fun a m I => by
  refine (s_X11_hopes I.1).to ?_
  rintro _ m1 ⟨w1, f1, v, rfl⟩
  refine ⟨⟨_, rfl⟩, (s_X12_hopes w1 (rg_keep I.2.1 f1 rfl)).to ?_⟩
  rintro _ m2 ⟨w2, f2, v2, rfl⟩
  exact ⟨⟨_, rfl⟩, inv_gen I f1 f2 w2 rfl rfl rfl rfl rfl rfl⟩
theorem o_top : O_top ad d Inv Inv := fun a b c m I => by
  refine (s_X11_top I.1).to ?_
  rintro _ m1 ⟨w1, f1, v, rfl⟩
  refine ⟨⟨_, rfl⟩, (s_X12_top w1).to ?_⟩
  rintro _ m2 ⟨w2, f2, v2, rfl⟩
  exact ⟨⟨_, rfl⟩, inv_gen I f1 f2 w2 rfl rfl rfl rfl rfl rfl⟩
theorem o_quick : O_quick ad d Inv Inv := fun a m I => by
  refine (s_X11_quick I.1).to ?_
  rintro _ m1 ⟨w1, f1, v, rfl⟩
  refine ⟨⟨_, rfl⟩, (s_X12_quick w1).to ?_⟩
  rintro _ m2 ⟨w2, f2, v2, rfl⟩
  exact ⟨⟨_, rfl⟩, inv_gen I f1 f2 w2 rfl rfl rfl rfl rfl rfl⟩
theorem o_best : O_best ad d Inv Inv := fun a b m I => by
  refine (s_X11_best I.1).to ?_
  rintro _ m1 ⟨w1, f1, v, rfl⟩
  refine ⟨⟨_, rfl⟩, (s_X12_best w1).to ?_⟩
  rintro _ m2 ⟨w2, f2, v2, rfl⟩
  exact ⟨⟨_, rfl⟩, inv_gen I f1 f2 w2 rfl rfl rfl rfl rfl rfl⟩
theorem o_even : O_even ad d Inv Inv := fun a m I => by
  refine (s_X11_even I.1).to ?_
  rintro _ m1 ⟨w1, f1, v, rfl⟩
  refine ⟨⟨_, rfl⟩, (s_X12_even w1).to ?_⟩
  rintro _ m2 ⟨w2, f2, v2, rfl⟩
  exact ⟨⟨_, rfl⟩, inv_gen I f1 f2 w2 rfl rfl rfl rfl rfl rfl⟩
theorem o_all : O_all ad d Inv Inv := fun m I => by
  refine (s_X11_all I.1).to ?_
  rintro _ m1 ⟨w1, f1, v, rfl⟩
  refine ⟨⟨_, rfl⟩, (s_X12_all w1).to ?_⟩
  rintro _ m2 ⟨w2, f2, v2, rfl⟩
  exact ⟨⟨_, rfl⟩, inv_gen I f1 f2 w2 rfl rfl rfl rfl rfl rfl⟩
theorem o_next : O_next ad d Inv Inv := fun a m I => by
  refine (s_X11_next I.1).to ?_
  rintro _ m1 ⟨w1, f1, v, rfl⟩
  refine ⟨⟨_, rfl⟩, (s_X12_next w1).to ?_⟩
  rintro _ m2 ⟨w2, f2, v2, rfl⟩
  exact ⟨⟨_, rfl⟩, inv_gen I f1 f2 w2 rfl rfl rfl rfl rfl rfl⟩
theorem o_seen : O_seen ad d Inv Inv := fun a b c m I => by
  refine (s_X11_seen I.1).to ?_
  rintro _ m1 ⟨w1, f1, v, rfl⟩
  refine ⟨⟨_, rfl⟩, (s_X12_seen w1).to ?_⟩
  rintro _ m2 ⟨w2, f2, v2, rfl⟩
  exact ⟨⟨_, rfl⟩, inv_gen I f1 f2 w2 rfl rfl rfl rfl rfl rfl⟩
theorem o_found : O_found ad d Inv Inv := fun m I => by
  refine (s_X11_found I.1).to ?_
  rintro _ m1 ⟨w1, f1, v, rfl⟩
  refine ⟨⟨_, rfl⟩, (s_X12_found w1).to ?_⟩
  rintro _ m2 ⟨w2, f2, v2, rfl⟩
  exact ⟨⟨_, rfl⟩, inv_gen I f1 f2 w2 rfl rfl rfl rfl rfl rfl⟩
theorem o_prize : O_prize ad d Inv Inv := fun m I => by
  refine (s_X11_prize I.1).to ?_
  rintro _ m1 ⟨w1, f1, v, rfl⟩
  refine ⟨⟨_, rfl⟩, (s_X12_prize w1).to ?_⟩
  rintro _ m2 ⟨w2, f2, v2, rfl⟩
  exact ⟨⟨_, rfl⟩, inv_gen I f1 f2 w2 rfl rfl rfl rfl rfl rfl⟩
theorem o_pays : O_pays ad d Inv Inv := fun a b m I => by
  refine (s_X11_pays I.1).to ?_
  rintro _ m1 ⟨w1, f1, v, rfl⟩
  refine ⟨⟨_, rfl⟩, (s_X12_pays w1).to ?_⟩
  rintro _ m2 ⟨w2, f2, v2, rfl⟩
  exact ⟨⟨_, rfl⟩, inv_gen I f1 f2 w2 rfl rfl rfl rfl rfl rfl⟩
theorem o_laws : O_laws ad d Inv Inv := fun a m I => by
  refine (s_X11_laws I.1).to ?_
  rintro _ m1 ⟨w1, f1, v, rfl⟩
  refine ⟨⟨_, rfl⟩, (s_X12_laws w1).to ?_⟩
  rintro _ m2 ⟨w2, f2, v2, rfl⟩
  exact ⟨⟨_, rfl⟩, inv_gen I f1 f2 w2 rfl rfl rfl rfl rfl rfl⟩
theorem o_seed : O_seed ad d Inv Inv := fun a m I => by
  refine (s_X11_seed I.1).to ?_
  rintro _ m1 ⟨w1, f1, v, rfl⟩
  refine ⟨⟨_, rfl⟩, (s_X12_seed w1).to ?_⟩
  rintro _ m2 ⟨w2, f2, v2, rfl⟩
  exact ⟨⟨_, rfl⟩, inv_gen I f1 f2 w2 rfl rfl rfl rfl rfl rfl⟩
theorem o_keep : O_keep ad d Inv Inv := fun a m I => by
  refine (s_X11_keep I.1).to ?_
  rintro _ m1 ⟨w1, f1, v, rfl, -⟩
  refine ⟨⟨_, rfl⟩, (s_X12_keep w1).to ?_⟩
  rintro _ m2 ⟨w2, f2, v2, rfl, -⟩
  exact ⟨⟨_, rfl⟩, inv_gen I f1 f2 w2 rfl rfl rfl rfl rfl rfl⟩
theorem o_count : O_count ad d Inv Inv := fun a m I => by
  refine (s_X11_count I.1).to ?_
  rintro _ m1 ⟨w1, f1, v, rfl⟩
  refine ⟨⟨_, rfl⟩, (s_X12_count w1).to ?_⟩
  rintro _ m2 ⟨w2, f2, v2, rfl⟩
  exact ⟨⟨_, rfl⟩, inv_gen I f1 f2 w2 rfl rfl rfl rfl rfl rfl⟩
theorem o_ill : O_ill ad d Inv Inv := fun a b hb m I => by
  refine (s_X11_ill I.1).to ?_
  rintro _ m1 ⟨w1, f1, v, rfl, -⟩
  refine ⟨⟨_, rfl⟩, (s_X12_ill w1).to ?_⟩
  rintro _ m2 ⟨w2, f2, v2, rfl, -⟩
  exact ⟨⟨_, rfl⟩, inv_gen I f1 f2 w2 rfl rfl rfl rfl rfl rfl⟩
theorem o_sign : O_sign ad d Inv Inv := fun a m I => by
  refine (s_X11_sign I.1).to ?_
  rintro _ m1 ⟨w1, f1, v, rfl, p1⟩
  have e14 : (m1.1 187 14).toInt = (m.1 187 14).toInt := congrArg _ (c14 f1 rfl)
  have hI := I.2.2
  refine ⟨⟨_, rfl⟩, (s_X12_sign w1).to ?_⟩
  rintro _ m2 ⟨w2, f2, v2, rfl, p2⟩
  have e11 : (m2.1 1 1).toInt = (m1.1 1 1).toInt := congrArg _ (c11 f2 rfl)
  refine ⟨⟨_, rfl⟩, w2, rg_keep (rg_keep I.2.1 f1 rfl) f2 rfl, ?_⟩
  omega
theorem o_end : O_end ad d Inv Inv := fun a m I => by
  refine (s_X11_end I.1).to ?_
  rintro _ m1 ⟨w1, f1, v, rfl, -, -, p1⟩
  have e14 : (m1.1 187 14).toInt = (m.1 187 14).toInt := congrArg _ (c14 f1 rfl)
  have hI := I.2.2
  refine ⟨v, rfl, (s_X12_end w1).to ?_⟩
  rintro _ m2 ⟨w2, f2, v2, rfl, -, -, p2⟩
  have e11 : (m2.1 1 1).toInt = (m1.1 1 1).toInt := congrArg _ (c11 f2 rfl)
  refine ⟨congrArg (fun z => some (Value.int z)) ((fa_eq _ _).mpr (by omega)), w2, rg_keep (rg_keep I.2.1 f1 rfl) f2 rfl, ?_⟩
  omega
theorem o_league : O_league ad d Inv Inv := fun m I => by
  refine (s_X11_league I.1).to ?_
  rintro _ m1 ⟨w1, f1, v, rfl, p1⟩
  refine ⟨⟨_, rfl⟩, (s_X12_league w1).to ?_⟩
  rintro _ m2 ⟨w2, f2, ⟨v2, rfl⟩, p2, q⟩
  have e11 : (m2.1 1 1).toInt = (m1.1 1 1).toInt := congrArg _ (c11 f2 rfl)
  exact ⟨⟨_, rfl⟩, w2, rg_or (rg_keep I.2.1 f1 rfl) (by rcases q with q | q; exact Or.inl q; exact Or.inr (Or.inl q)), by omega⟩
theorem o_rule : O_rule ad d Inv Inv := fun m I => by
  refine (s_X11_rule I.1).to ?_
  rintro _ m1 ⟨w1, f1, v, rfl, p1⟩
  refine ⟨⟨_, rfl⟩, (s_X12_rule w1).to ?_⟩
  rintro _ m2 ⟨w2, f2, ⟨v2, rfl⟩, p2⟩
  have e11 : (m2.1 1 1).toInt = (m1.1 1 1).toInt := congrArg _ (c11 f2 rfl)
  exact ⟨⟨_, rfl⟩, w2, rg_keep (rg_keep I.2.1 f1 rfl) f2 rfl, by omega⟩
theorem o_plan : O_plan ad d Inv Inv := fun m I => by
  refine (s_X11_plan I.1).to ?_
  rintro _ m1 ⟨w1, f1, v, rfl, p1⟩
  refine ⟨⟨_, rfl⟩, (s_X12_plan w1).to ?_⟩
  rintro _ m2 ⟨w2, f2, ⟨v2, rfl⟩, p2, q⟩
  have e11 : (m2.1 1 1).toInt = (m1.1 1 1).toInt := congrArg _ (c11 f2 rfl)
  exact ⟨⟨_, rfl⟩, w2, rg_or (rg_keep I.2.1 f1 rfl) q, by omega⟩
theorem o_circle : O_circle ad d Inv Inv := fun m I => by
  refine (s_X11_circle I.1).to ?_
  rintro _ m1 ⟨w1, f1, v, rfl⟩
  refine ⟨⟨_, rfl⟩, (s_X12_circle w1).to ?_⟩
  rintro _ m2 ⟨w2, f2, ⟨v2, rfl⟩, q⟩
  exact ⟨⟨_, rfl⟩, w2, rg_or (rg_keep I.2.1 f1 rfl) (by rcases q with q | q; exact Or.inl q; exact Or.inr (Or.inr q)), inv_len I f1 f2 rfl rfl rfl rfl⟩
theorem o_rounds : O_rounds ad d Inv Inv := fun a m I => by
  refine (s_X11_rounds I.1).to ?_
  rintro _ m1 ⟨w1, f1, v, rfl⟩
  refine ⟨⟨_, rfl⟩, (s_X12_rounds w1).to ?_⟩
  rintro _ m2 ⟨w2, f2, v2, rfl, q1, q2⟩
  have h := rg_keep I.2.1 f1 rfl
  exact ⟨⟨_, rfl⟩, w2, by omega, inv_len I f1 f2 rfl rfl rfl rfl⟩
theorem o_again : O_again ad d Inv Inv := fun a m I => by
  refine (s_X11_again I.1).to ?_
  rintro _ m1 ⟨w1, f1, v, rfl, -⟩
  refine ⟨⟨_, rfl⟩, (s_X12_again w1).to ?_⟩
  rintro _ m2 ⟨w2, f2, v2, rfl, -, -, q1, q2⟩
  have h := rg_keep I.2.1 f1 rfl
  exact ⟨⟨_, rfl⟩, w2, by omega, inv_len I f1 f2 rfl rfl rfl rfl⟩
theorem o_of : O_of ad d Inv Inv := fun a b m I => by
  have hx : CtX ad μX11_of (d + 299) [.ref (ad 0), .int a, .int b] m (fun r m' => WT m' ∧ Fx (RS [14]) m m' ∧ ∃ v : Int32, r = some (.int v)) (fun m' => WT m' ∧ Fx (RS [14]) m m') := by
    refine v_X11_of (d := d + 293) ((s_X1_has I.1).to ?_)
    rintro _ m1 ⟨w1, f1, v, rfl, -, -, p1⟩
    have f1' : Fx (RS [14]) m m1 := (Fx.rf (S := RS [14])).tr f1 (RS_sub rfl)
    refine ⟨v, rfl, fun c => ?_, fun _ => ⟨w1, f1'⟩⟩
    have c' := z_ne c
    have z0 : (0 : Int32).toInt = 0 := rfl
    have V : vp_in a 8 := vpi (by omega) (by omega)
    refine ⟨fun _ => (s_X1_power w1 SS_21 (by omega) (by omega)).to ?_, fun _ => ⟨V, w1, f1', _, rfl⟩, fun _ => ⟨V, w1, f1', _, rfl⟩, fun _ => (s_X1_isIll w1).to ?_, fun _ => ⟨V, w1, f1', _, rfl⟩, fun _ _ _ _ _ => ⟨w1, f1'⟩⟩
    · rintro _ m2 ⟨w2, f2, v2, rfl⟩
      exact ⟨v2, rfl, w2, f1'.tr f2 (RS_sub rfl), _, rfl⟩
    · rintro _ m2 ⟨w2, f2, v2, rfl, -⟩
      exact ⟨v2, rfl, fun _ => ⟨w2, f1'.tr f2 (RS_sub rfl), _, rfl⟩, fun _ => ⟨w2, f1'.tr f2 (RS_sub rfl), _, rfl⟩⟩
  have fin : ∀ m1, WT m1 → Fx (RS [14, 51]) m m1 → Ct ad μX12_of (d + 300) [.ref (ad 187), .int a, .int b] m1 (fun r m3 => (∃ w : Int32, r = some (.int w)) ∧ Inv m3) := by
    intro m1 w1 f1
    refine (s_X12_of w1).to ?_
    rintro _ m2 ⟨w2, f2, v2, rfl⟩
    exact ⟨⟨_, rfl⟩, inv_gen I f1 f2 w2 rfl rfl rfl rfl rfl rfl⟩
  refine ctg_of hx (fun r m1 h => ?_) (fun m1 h => ?_)
  · obtain ⟨w1, f1, v, rfl⟩ := h
    exact ⟨v, rfl, ⟨_, rfl⟩, fin _ w1.l (((Fx.rf (S := RS [14, 51])).tr f1 (RS_sub rfl)).l rfl)⟩
  · exact ⟨⟨_, rfl⟩, fin _ h.1 ((Fx.rf (S := RS [14, 51])).tr h.2 (RS_sub rfl))⟩
theorem o_row : O_row ad d Inv Inv := fun a m I => by
  have hx : CtX ad μX11_row (d + 299) [.ref (ad 0), .int a] m (fun r m' => m' = m ∧ ∃ v : Int64, r = some (.long v)) (fun m' => m' = m) := by
    have t := I.1.at (a := 0) (k := 18) rfl
    refine v_X11_row (d := d + 293) ⟨fun _ => rfl, fun c => ⟨fun c2 => ⟨?_, rfl, _, rfl⟩, fun _ => rfl⟩⟩
    have c' := y_nltr (n := 0) rfl c
    have c2' := z_lt c2
    exact vpi (by omega) (by omega)
  have fin : ∀ m1, WT m1 → Fx (RS [51]) m m1 → Ct ad μX12_row (d + 300) [.ref (ad 187), .int a] m1 (fun r m3 => (∃ w : Int64, r = some (.long w)) ∧ Inv m3) := by
    intro m1 w1 f1
    refine (s_X12_row w1).to ?_
    rintro _ m2 ⟨w2, f2, v2, rfl⟩
    exact ⟨⟨_, rfl⟩, inv_gen I f1 f2 w2 rfl rfl rfl rfl rfl rfl⟩
  refine ctg_row hx (fun r m1 h => ?_) (fun m1 h => ?_)
  · obtain ⟨rfl, v, rfl⟩ := h
    exact ⟨v, rfl, ⟨_, rfl⟩, fin _ I.1.l ((Fx.rf (S := RS [51])).l rfl)⟩
  · subst h
    exact ⟨⟨_, rfl⟩, fin _ I.1 Fx.rf⟩
theorem all_ops : OPS ad d Inv Inv := ⟨o_sign, o_end, o_league, o_rule, o_plan, o_skill, o_of, o_law, o_sheet, o_ill, o_swap, o_circle, o_game, o_odds, o_play, o_undo, o_judge, o_rounds, o_beats, o_kings, o_master, o_table, o_spread, o_rest, o_mean, o_soon, o_wins, o_hopes, o_top, o_quick, o_best, o_even, o_all, o_next, o_seen, o_found, o_prize, o_pays, o_laws, o_seed, o_keep, o_again, o_count, o_row, fun _ h => h⟩
end OPW
