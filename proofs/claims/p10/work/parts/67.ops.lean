/-! ALL CALLS BUT of AND row, FROM THE INVARIANT TO THE INVARIANT -/
section OPB
variable {ad : Nat → Nat} {d : Nat}
theorem ow_skill (a b : Int32) : BothW ad d μX11_skill μX12_skill [.int a, .int b] Inv Inv := fun m I => by
  refine (s_X11_skill I.1).to ?_
  rintro _ m1 ⟨w1, f1, v, rfl⟩
  refine ⟨⟨_, rfl⟩, (s_X12_skill w1).to ?_⟩
  rintro _ m2 ⟨w2, f2, v2, rfl⟩
  exact ⟨⟨_, rfl⟩, w2, I.2.f2 f1 f2 rfl rfl⟩
theorem ow_law (a b : Int32) : BothW ad d μX11_law μX12_law [.int a, .int b] Inv Inv := fun m I => by
  refine (s_X11_law I.1).to ?_
  rintro _ m1 ⟨w1, f1, v, rfl⟩
  refine ⟨⟨_, rfl⟩, (s_X12_law w1).to ?_⟩
  rintro _ m2 ⟨w2, f2, v2, rfl⟩
  exact ⟨⟨_, rfl⟩, w2, I.2.f2 f1 f2 rfl rfl⟩
set_option maxHeartbeats 1000000 in
theorem os_ill (a b : Int32) (hb : b = 0 ∨ b = 1) : Both ad d μX11_ill μX12_ill [.int a, .int b] Inv Inv := fun m I => by
  have hS : (m.1 3 3).toInt = (m.1 187 1).toInt := congrArg _ I.2.2.2.1
  have hN : (m.1 0 15).toInt = (m.1 187 52).toInt := congrArg _ I.2.2.2.2.2
  refine (s_X11_ill I.1).to ?_
  rintro _ m1 ⟨w1, f1, v, rfl, -, -, p1⟩
  have g1 : (m1.1 187 1).toInt = (m.1 187 1).toInt := congrArg _ (f1.at (nRS (ρ := 23) rfl rfl))
  have g52 : (m1.1 187 52).toInt = (m.1 187 52).toInt := congrArg _ (f1.at (nRS (ρ := 39) rfl rfl))
  refine ⟨v, rfl, (s_X12_ill w1).to ?_⟩
  rintro _ m2 ⟨w2, f2, v2, rfl, -, -, p2⟩
  exact ⟨congrArg (fun z => some (Value.int z)) ((fa_eq _ _).mpr (by omega)), w2, I.2.f2 f1 f2 rfl rfl⟩
set_option maxHeartbeats 1000000 in
theorem os_swap (a b : Int32) : Both ad d μX11_swap μX12_swap [.int a, .int b] Inv Inv := fun m I => by
  have hS : (m.1 3 3).toInt = (m.1 187 1).toInt := congrArg _ I.2.2.2.1
  have hN : (m.1 0 15).toInt = (m.1 187 52).toInt := congrArg _ I.2.2.2.2.2
  refine (s_X11_swap I.1).to ?_
  rintro _ m1 ⟨w1, f1, v, rfl, -, -, p1⟩
  have g1 : (m1.1 187 1).toInt = (m.1 187 1).toInt := congrArg _ (f1.at (nRS (ρ := 23) rfl rfl))
  have g52 : (m1.1 187 52).toInt = (m.1 187 52).toInt := congrArg _ (f1.at (nRS (ρ := 39) rfl rfl))
  refine ⟨v, rfl, (s_X12_swap w1).to ?_⟩
  rintro _ m2 ⟨w2, f2, v2, rfl, -, -, p2⟩
  exact ⟨congrArg (fun z => some (Value.int z)) ((fa_eq _ _).mpr (by omega)), w2, I.2.f2 f1 f2 rfl rfl⟩
theorem ow_game (a b c : Int32) : BothW ad d μX11_game μX12_game [.int a, .int b, .int c] Inv Inv := fun m I => by
  refine (s_X11_game I.1).to ?_
  rintro _ m1 ⟨w1, f1, v, rfl⟩
  refine ⟨⟨_, rfl⟩, (s_X12_game w1).to ?_⟩
  rintro _ m2 ⟨w2, f2, v2, rfl⟩
  exact ⟨⟨_, rfl⟩, w2, I.2.f2 f1 f2 rfl rfl⟩
theorem ow_odds (a b : Int32) : BothW ad d μX11_odds μX12_odds [.int a, .int b] Inv Inv := fun m I => by
  refine (s_X11_odds I.1).to ?_
  rintro _ m1 ⟨w1, f1, v, rfl⟩
  refine ⟨⟨_, rfl⟩, (s_X12_odds w1).to ?_⟩
  rintro _ m2 ⟨w2, f2, v2, rfl⟩
  exact ⟨⟨_, rfl⟩, w2, I.2.f2 f1 f2 rfl rfl⟩
theorem ow_play (a b c : Int32) : BothW ad d μX11_play μX12_play [.int a, .int b, .int c] Inv Inv := fun m I => by
  refine (s_X11_play I.1).to ?_
  rintro _ m1 ⟨w1, f1, v, rfl⟩
  refine ⟨⟨_, rfl⟩, (s_X12_play w1).to ?_⟩
  rintro _ m2 ⟨w2, f2, v2, rfl⟩
  exact ⟨⟨_, rfl⟩, w2, I.2.f2 f1 f2 rfl rfl⟩
theorem ow_undo : BothW ad d μX11_undo μX12_undo [] Inv Inv := fun m I => by
  refine (s_X11_undo I.1).to ?_
  rintro _ m1 ⟨w1, f1, v, rfl⟩
  refine ⟨⟨_, rfl⟩, (s_X12_undo w1).to ?_⟩
  rintro _ m2 ⟨w2, f2, v2, rfl⟩
  exact ⟨⟨_, rfl⟩, w2, I.2.f2 f1 f2 rfl rfl⟩
theorem ow_judge (a b : Int32) : BothW ad d μX11_judge μX12_judge [.int a, .int b] Inv Inv := fun m I => by
  refine (s_X11_judge I.1).to ?_
  rintro _ m1 ⟨w1, f1, v, rfl⟩
  refine ⟨⟨_, rfl⟩, (s_X12_judge w1).to ?_⟩
  rintro _ m2 ⟨w2, f2, v2, rfl⟩
  exact ⟨⟨_, rfl⟩, w2, I.2.f2 f1 f2 rfl rfl⟩
theorem ow_rounds (a : Int32) : BothW ad d μX11_rounds μX12_rounds [.int a] Inv Inv := fun m I => by
  refine (s_X11_rounds I.1).to ?_
  rintro _ m1 ⟨w1, f1, v, rfl⟩
  refine ⟨⟨_, rfl⟩, (s_X12_rounds w1).to ?_⟩
  rintro _ m2 ⟨w2, f2, v2, rfl, -⟩
  exact ⟨⟨_, rfl⟩, w2, I.2.f2 f1 f2 rfl rfl⟩
theorem ow_beats (a : Int32) : BothW ad d μX11_beats μX12_beats [.int a] Inv Inv := fun m I => by
  refine (s_X11_beats I.1).to ?_
  rintro _ m1 ⟨w1, f1, v, rfl⟩
  refine ⟨⟨_, rfl⟩, (s_X12_beats w1).to ?_⟩
  rintro _ m2 ⟨w2, f2, v2, rfl⟩
  exact ⟨⟨_, rfl⟩, w2, I.2.f2 f1 f2 rfl rfl⟩
theorem ow_kings : BothW ad d μX11_kings μX12_kings [] Inv Inv := fun m I => by
  refine (s_X11_kings I.1).to ?_
  rintro _ m1 ⟨w1, f1, v, rfl⟩
  refine ⟨⟨_, rfl⟩, (s_X12_kings w1).to ?_⟩
  rintro _ m2 ⟨w2, f2, v2, rfl⟩
  exact ⟨⟨_, rfl⟩, w2, I.2.f2 f1 f2 rfl rfl⟩
theorem ow_master (a : Int32) : BothW ad d μX11_master μX12_master [.int a] Inv Inv := fun m I => by
  refine (s_X11_master I.1).to ?_
  rintro _ m1 ⟨w1, f1, v, rfl⟩
  refine ⟨⟨_, rfl⟩, (s_X12_master w1).to ?_⟩
  rintro _ m2 ⟨w2, f2, v2, rfl⟩
  exact ⟨⟨_, rfl⟩, w2, I.2.f2 f1 f2 rfl rfl⟩
set_option maxHeartbeats 1000000 in
theorem os_table : Both ad d μX11_table μX12_table [] Inv Inv := fun m I => by
  have hS : (m.1 3 3).toInt = (m.1 187 1).toInt := congrArg _ I.2.2.2.1
  have hN : (m.1 0 15).toInt = (m.1 187 52).toInt := congrArg _ I.2.2.2.2.2
  refine (s_X11_table I.1).to ?_
  rintro _ m1 ⟨w1, f1, v, rfl, p1⟩
  have g1 : (m1.1 187 1).toInt = (m.1 187 1).toInt := congrArg _ (f1.at (nRS (ρ := 23) rfl rfl))
  have g52 : (m1.1 187 52).toInt = (m.1 187 52).toInt := congrArg _ (f1.at (nRS (ρ := 39) rfl rfl))
  refine ⟨v, rfl, (s_X12_table w1).to ?_⟩
  rintro _ m2 ⟨w2, f2, v2, rfl, p2⟩
  exact ⟨congrArg (fun z => some (Value.int z)) ((fa_eq _ _).mpr (by omega)), w2, I.2.f2 f1 f2 rfl rfl⟩
theorem ow_spread : BothW ad d μX11_spread μX12_spread [] Inv Inv := fun m I => by
  refine (s_X11_spread I.1).to ?_
  rintro _ m1 ⟨w1, f1, v, rfl⟩
  refine ⟨⟨_, rfl⟩, (s_X12_spread w1).to ?_⟩
  rintro _ m2 ⟨w2, f2, v2, rfl⟩
  exact ⟨⟨_, rfl⟩, w2, I.2.f2 f1 f2 rfl rfl⟩
theorem ow_rest : BothW ad d μX11_rest μX12_rest [] Inv Inv := fun m I => by
  refine (s_X11_rest I.1).to ?_
  rintro _ m1 ⟨w1, f1, v, rfl⟩
  refine ⟨⟨_, rfl⟩, (s_X12_rest w1).to ?_⟩
  rintro _ m2 ⟨w2, f2, v2, rfl⟩
  exact ⟨⟨_, rfl⟩, w2, I.2.f2 f1 f2 rfl rfl⟩
theorem ow_mean (a b : Int32) : BothW ad d μX11_mean μX12_mean [.int a, .int b] Inv Inv := fun m I => by
  refine (s_X11_mean I.1).to ?_
  rintro _ m1 ⟨w1, f1, v, rfl⟩
  refine ⟨⟨_, rfl⟩, (s_X12_mean w1).to ?_⟩
  rintro _ m2 ⟨w2, f2, v2, rfl⟩
  exact ⟨⟨_, rfl⟩, w2, I.2.f2 f1 f2 rfl rfl⟩
theorem ow_soon (a b c : Int32) : BothW ad d μX11_soon μX12_soon [.int a, .int b, .int c] Inv Inv := fun m I => by
  refine (s_X11_soon I.1).to ?_
  rintro _ m1 ⟨w1, f1, v, rfl⟩
  refine ⟨⟨_, rfl⟩, (s_X12_soon w1).to ?_⟩
  rintro _ m2 ⟨w2, f2, v2, rfl⟩
  exact ⟨⟨_, rfl⟩, w2, I.2.f2 f1 f2 rfl rfl⟩
theorem ow_wins (a b c : Int32) : BothW ad d μX11_wins μX12_wins [.int a, .int b, .int c] Inv Inv := fun m I => by
  refine (s_X11_wins I.1).to ?_
  rintro _ m1 ⟨w1, f1, v, rfl⟩
  refine ⟨⟨_, rfl⟩, (s_X12_wins w1 (I.2.1.fx f1 rfl)).to ?_⟩
  rintro _ m2 ⟨w2, f2, v2, rfl⟩
  exact ⟨⟨_, rfl⟩, w2, I.2.f2 f1 f2 rfl rfl⟩
theorem ow_hopes (a : Int32) : BothW ad d μX11_hopes μX12_hopes [.int a] Inv Inv := fun m I => by
  refine (s_X11_hopes I.1).to ?_
  rintro _ m1 ⟨w1, f1, v, rfl⟩
  refine ⟨⟨_, rfl⟩, (s_X12_hopes w1 (I.2.1.fx f1 rfl)).to ?_⟩
  rintro _ m2 ⟨w2, f2, v2, rfl⟩
  exact ⟨⟨_, rfl⟩, w2, I.2.f2 f1 f2 rfl rfl⟩
theorem ow_top (a b c : Int32) : BothW ad d μX11_top μX12_top [.int a, .int b, .int c] Inv Inv := fun m I => by
  refine (s_X11_top I.1).to ?_
  rintro _ m1 ⟨w1, f1, v, rfl⟩
  refine ⟨⟨_, rfl⟩, (s_X12_top w1).to ?_⟩
  rintro _ m2 ⟨w2, f2, v2, rfl⟩
  exact ⟨⟨_, rfl⟩, w2, I.2.f2 f1 f2 rfl rfl⟩
theorem ow_quick (a : Int32) : BothW ad d μX11_quick μX12_quick [.int a] Inv Inv := fun m I => by
  refine (s_X11_quick I.1).to ?_
  rintro _ m1 ⟨w1, f1, v, rfl⟩
  refine ⟨⟨_, rfl⟩, (s_X12_quick w1).to ?_⟩
  rintro _ m2 ⟨w2, f2, v2, rfl⟩
  exact ⟨⟨_, rfl⟩, w2, I.2.f2 f1 f2 rfl rfl⟩
theorem ow_best (a b : Int32) : BothW ad d μX11_best μX12_best [.int a, .int b] Inv Inv := fun m I => by
  refine (s_X11_best I.1).to ?_
  rintro _ m1 ⟨w1, f1, v, rfl⟩
  refine ⟨⟨_, rfl⟩, (s_X12_best w1).to ?_⟩
  rintro _ m2 ⟨w2, f2, v2, rfl⟩
  exact ⟨⟨_, rfl⟩, w2, I.2.f2 f1 f2 rfl rfl⟩
theorem ow_even (a : Int32) : BothW ad d μX11_even μX12_even [.int a] Inv Inv := fun m I => by
  refine (s_X11_even I.1).to ?_
  rintro _ m1 ⟨w1, f1, v, rfl⟩
  refine ⟨⟨_, rfl⟩, (s_X12_even w1).to ?_⟩
  rintro _ m2 ⟨w2, f2, v2, rfl⟩
  exact ⟨⟨_, rfl⟩, w2, I.2.f2 f1 f2 rfl rfl⟩
theorem ow_all : BothW ad d μX11_all μX12_all [] Inv Inv := fun m I => by
  refine (s_X11_all I.1).to ?_
  rintro _ m1 ⟨w1, f1, v, rfl⟩
  refine ⟨⟨_, rfl⟩, (s_X12_all w1).to ?_⟩
  rintro _ m2 ⟨w2, f2, v2, rfl⟩
  exact ⟨⟨_, rfl⟩, w2, I.2.f2 f1 f2 rfl rfl⟩
theorem ow_next (a : Int32) : BothW ad d μX11_next μX12_next [.int a] Inv Inv := fun m I => by
  refine (s_X11_next I.1).to ?_
  rintro _ m1 ⟨w1, f1, v, rfl⟩
  refine ⟨⟨_, rfl⟩, (s_X12_next w1).to ?_⟩
  rintro _ m2 ⟨w2, f2, v2, rfl⟩
  exact ⟨⟨_, rfl⟩, w2, I.2.f2 f1 f2 rfl rfl⟩
set_option maxHeartbeats 1000000 in
theorem os_seen (a b c : Int32) : Both ad d μX11_seen μX12_seen [.int a, .int b, .int c] Inv Inv := fun m I => by
  have hS : (m.1 3 3).toInt = (m.1 187 1).toInt := congrArg _ I.2.2.2.1
  have hN : (m.1 0 15).toInt = (m.1 187 52).toInt := congrArg _ I.2.2.2.2.2
  refine (s_X11_seen I.1).to ?_
  rintro _ m1 ⟨w1, f1, v, rfl, p1⟩
  have g1 : (m1.1 187 1).toInt = (m.1 187 1).toInt := congrArg _ (f1.at (nRS (ρ := 23) rfl rfl))
  have g52 : (m1.1 187 52).toInt = (m.1 187 52).toInt := congrArg _ (f1.at (nRS (ρ := 39) rfl rfl))
  refine ⟨v, rfl, (s_X12_seen w1).to ?_⟩
  rintro _ m2 ⟨w2, f2, v2, rfl, p2⟩
  have h33 : m2.1 3 3 = m2.1 187 1 := by
    rw [f2.at (a := 3) (k := 3) (nRS (ρ := 41) rfl rfl), f2.at (a := 187) (k := 1) (nRS (ρ := 23) rfl rfl), f1.at (a := 3) (k := 3) (nRS (ρ := 41) rfl rfl), f1.at (a := 187) (k := 1) (nRS (ρ := 23) rfl rfl)]; exact I.2.2.2.1
  have h34 : m2.1 3 4 = m2.1 187 0 := by
    rw [f2.at (a := 3) (k := 4) (nRS (ρ := 41) rfl rfl), f2.at (a := 187) (k := 0) (nRS (ρ := 23) rfl rfl), f1.at (a := 3) (k := 4) (nRS (ρ := 41) rfl rfl), f1.at (a := 187) (k := 0) (nRS (ρ := 23) rfl rfl)]; exact I.2.2.2.2.1
  have g15 : (m2.1 0 15).toInt = (m1.1 0 15).toInt := congrArg _ (f2.at (nRS (ρ := 8) rfl rfl))
  exact ⟨congrArg (fun z => some (Value.int z)) ((fa_eq _ _).mpr (by omega)), w2, (I.2.1.fx f1 rfl).fx f2 rfl, (I.2.2.1.fx f1 rfl rfl).fx f2 rfl rfl, h33, h34, (fa_eq _ _).mpr (by omega)⟩
theorem ow_found : BothW ad d μX11_found μX12_found [] Inv Inv := fun m I => by
  refine (s_X11_found I.1).to ?_
  rintro _ m1 ⟨w1, f1, v, rfl⟩
  refine ⟨⟨_, rfl⟩, (s_X12_found w1).to ?_⟩
  rintro _ m2 ⟨w2, f2, v2, rfl⟩
  exact ⟨⟨_, rfl⟩, w2, I.2.f2 f1 f2 rfl rfl⟩
theorem ow_prize : BothW ad d μX11_prize μX12_prize [] Inv Inv := fun m I => by
  refine (s_X11_prize I.1).to ?_
  rintro _ m1 ⟨w1, f1, v, rfl⟩
  refine ⟨⟨_, rfl⟩, (s_X12_prize w1).to ?_⟩
  rintro _ m2 ⟨w2, f2, v2, rfl⟩
  exact ⟨⟨_, rfl⟩, w2, I.2.f2 f1 f2 rfl rfl⟩
theorem ow_pays (a b : Int32) : BothW ad d μX11_pays μX12_pays [.int a, .int b] Inv Inv := fun m I => by
  refine (s_X11_pays I.1).to ?_
  rintro _ m1 ⟨w1, f1, v, rfl⟩
  refine ⟨⟨_, rfl⟩, (s_X12_pays w1).to ?_⟩
  rintro _ m2 ⟨w2, f2, v2, rfl⟩
  exact ⟨⟨_, rfl⟩, w2, I.2.f2 f1 f2 rfl rfl⟩
theorem ow_laws (a : Int32) : BothW ad d μX11_laws μX12_laws [.int a] Inv Inv := fun m I => by
  refine (s_X11_laws I.1).to ?_
  rintro _ m1 ⟨w1, f1, v, rfl⟩
  refine ⟨⟨_, rfl⟩, (s_X12_laws w1).to ?_⟩
  rintro _ m2 ⟨w2, f2, v2, rfl⟩
  exact ⟨⟨_, rfl⟩, w2, I.2.f2 f1 f2 rfl rfl⟩
theorem ow_seed (a : Int32) : BothW ad d μX11_seed μX12_seed [.int a] Inv Inv := fun m I => by
  refine (s_X11_seed I.1).to ?_
  rintro _ m1 ⟨w1, f1, v, rfl⟩
  refine ⟨⟨_, rfl⟩, (s_X12_seed w1).to ?_⟩
  rintro _ m2 ⟨w2, f2, v2, rfl⟩
  exact ⟨⟨_, rfl⟩, w2, I.2.f2 f1 f2 rfl rfl⟩
set_option maxHeartbeats 1000000 in
theorem os_keep (a : Int32) : Both ad d μX11_keep μX12_keep [.int a] Inv Inv := fun m I => by
  have hS : (m.1 3 3).toInt = (m.1 187 1).toInt := congrArg _ I.2.2.2.1
  have hN : (m.1 0 15).toInt = (m.1 187 52).toInt := congrArg _ I.2.2.2.2.2
  refine (s_X11_keep I.1).to ?_
  rintro _ m1 ⟨w1, f1, v, rfl, -, -, p1⟩
  have g1 : (m1.1 187 1).toInt = (m.1 187 1).toInt := congrArg _ (f1.at (nRS (ρ := 23) rfl rfl))
  have g52 : (m1.1 187 52).toInt = (m.1 187 52).toInt := congrArg _ (f1.at (nRS (ρ := 39) rfl rfl))
  refine ⟨v, rfl, (s_X12_keep w1).to ?_⟩
  rintro _ m2 ⟨w2, f2, v2, rfl, -, -, p2⟩
  exact ⟨congrArg (fun z => some (Value.int z)) ((fa_eq _ _).mpr (by omega)), w2, I.2.f2 f1 f2 rfl rfl⟩
theorem ow_again (a : Int32) : BothW ad d μX11_again μX12_again [.int a] Inv Inv := fun m I => by
  refine (s_X11_again I.1).to ?_
  rintro _ m1 ⟨w1, f1, v, rfl, -⟩
  refine ⟨⟨_, rfl⟩, (s_X12_again w1).to ?_⟩
  rintro _ m2 ⟨w2, f2, v2, rfl, -⟩
  exact ⟨⟨_, rfl⟩, w2, I.2.f2 f1 f2 rfl rfl⟩
theorem ow_count (a : Int32) : BothW ad d μX11_count μX12_count [.int a] Inv Inv := fun m I => by
  refine (s_X11_count I.1).to ?_
  rintro _ m1 ⟨w1, f1, v, rfl⟩
  refine ⟨⟨_, rfl⟩, (s_X12_count w1).to ?_⟩
  rintro _ m2 ⟨w2, f2, v2, rfl⟩
  exact ⟨⟨_, rfl⟩, w2, I.2.f2 f1 f2 rfl rfl⟩
theorem rg_or {m1 m2 : Wm} (h : RG m1) (q : (m2.1 187 10 = m1.1 187 10 ∧ m2.1 187 11 = m1.1 187 11) ∨ (m2.1 187 11).toInt = 0 ∨ 1 ≤ (m2.1 187 10).toInt) : RG m2 := by
  unfold RG at h ⊢
  rcases q with ⟨q1, q2⟩ | q | q
  · rw [q1, q2]; exact h
  · exact Or.inl q
  · exact Or.inr q
theorem ow_rule : BothW ad d μX11_rule μX12_rule [] Inv Inv := fun m I => by
  refine (s_X11_rule I.1).to ?_
  rintro _ m1 ⟨w1, f1, v, rfl, p1⟩
  refine ⟨⟨_, rfl⟩, (s_X12_rule w1).to ?_⟩
  rintro _ m2 ⟨w2, f2, ⟨v2, rfl⟩, p2⟩
  have e11 : (m2.1 1 1).toInt = (m1.1 1 1).toInt := congrArg _ (f2.at (nRS (ρ := 0) rfl rfl))
  exact ⟨⟨_, rfl⟩, w2, (I.2.1.fx f1 rfl).fx f2 rfl, TXI.zero (by omega) p2, IV.sd I.2 f1 f2 rfl rfl⟩
theorem ow_plan : BothW ad d μX11_plan μX12_plan [] Inv Inv := fun m I => by
  refine (s_X11_plan I.1).to ?_
  rintro _ m1 ⟨w1, f1, v, rfl, p1⟩
  refine ⟨⟨_, rfl⟩, (s_X12_plan w1).to ?_⟩
  rintro _ m2 ⟨w2, f2, ⟨v2, rfl⟩, p2, q⟩
  have e11 : (m2.1 1 1).toInt = (m1.1 1 1).toInt := congrArg _ (f2.at (nRS (ρ := 0) rfl rfl))
  exact ⟨⟨_, rfl⟩, w2, rg_or (I.2.1.fx f1 rfl) q, TXI.zero (by omega) p2, IV.sd I.2 f1 f2 rfl rfl⟩
theorem ow_circle : BothW ad d μX11_circle μX12_circle [] Inv Inv := fun m I => by
  refine (s_X11_circle I.1).to ?_
  rintro _ m1 ⟨w1, f1, v, rfl⟩
  refine ⟨⟨_, rfl⟩, (s_X12_circle w1).to ?_⟩
  rintro _ m2 ⟨w2, f2, ⟨v2, rfl⟩, q⟩
  exact ⟨⟨_, rfl⟩, w2, rg_or (I.2.1.fx f1 rfl) (by rcases q with q | q; exact Or.inl q; exact Or.inr (Or.inr q)), (I.2.2.1.fx f1 rfl rfl).fx f2 rfl rfl, IV.sd I.2 f1 f2 rfl rfl⟩
end OPB
