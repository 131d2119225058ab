/-! ALL CALLS BUT of AND row, FROM THE INVARIANT TO THE INVARIANT -/
section OPB
variable {ad : Nat → Nat} {d : Nat} {K K' : Wm → Prop}
theorem ow_skill (hK : KD K K') (a b : Int32) : BothW ad d μX11_skill μX12_skill [.int a, .int b] (InvK K) (InvK K') := fun m I => by
  refine (s_X11_skill I.1).to ?_
  rintro _ m1 ⟨w1, f1, v, rfl⟩
  refine ⟨⟨_, rfl⟩, (s_X12_skill w1).to ?_⟩
  rintro _ m2 ⟨w2, f2, v2, rfl⟩
  exact ⟨⟨_, rfl⟩, w2, I.2.1.f2 f1 f2 rfl rfl, hK f1 f2 I.2.2 rfl rfl⟩
set_option maxHeartbeats 1000000 in
theorem os_ill (hK : KD K K') (a b : Int32) (hb : b = 0 ∨ b = 1) : Both ad d μX11_ill μX12_ill [.int a, .int b] (InvK K) (InvK K') := fun m I => by
  have hS : (m.1 3 3).toInt = (m.1 187 1).toInt := congrArg _ I.2.1.2.2.1
  have hN : (m.1 0 15).toInt = (m.1 187 52).toInt := congrArg _ I.2.1.2.2.2.2
  refine (s_X11_ill I.1).to ?_
  rintro _ m1 ⟨w1, f1, v, rfl, -, -, p1⟩
  have g1 : (m1.1 187 1).toInt = (m.1 187 1).toInt := congrArg _ (f1.at (nRS (ρ := 23) rfl rfl))
  have g52 : (m1.1 187 52).toInt = (m.1 187 52).toInt := congrArg _ (f1.at (nRS (ρ := 39) rfl rfl))
  refine ⟨v, rfl, (s_X12_ill w1).to ?_⟩
  rintro _ m2 ⟨w2, f2, v2, rfl, -, -, p2⟩
  exact ⟨congrArg (fun z => some (Value.int z)) ((fa_eq _ _).mpr (by omega)), w2, I.2.1.f2 f1 f2 rfl rfl, hK f1 f2 I.2.2 rfl rfl⟩
set_option maxHeartbeats 1000000 in
theorem os_swap (hK : KD K K') (a b : Int32) : Both ad d μX11_swap μX12_swap [.int a, .int b] (InvK K) (InvK K') := fun m I => by
  have hS : (m.1 3 3).toInt = (m.1 187 1).toInt := congrArg _ I.2.1.2.2.1
  have hN : (m.1 0 15).toInt = (m.1 187 52).toInt := congrArg _ I.2.1.2.2.2.2
  refine (s_X11_swap I.1).to ?_
  rintro _ m1 ⟨w1, f1, v, rfl, -, -, p1⟩
  have g1 : (m1.1 187 1).toInt = (m.1 187 1).toInt := congrArg _ (f1.at (nRS (ρ := 23) rfl rfl))
  have g52 : (m1.1 187 52).toInt = (m.1 187 52).toInt := congrArg _ (f1.at (nRS (ρ := 39) rfl rfl))
  refine ⟨v, rfl, (s_X12_swap w1).to ?_⟩
  rintro _ m2 ⟨w2, f2, v2, rfl, -, -, p2⟩
  exact ⟨congrArg (fun z => some (Value.int z)) ((fa_eq _ _).mpr (by omega)), w2, I.2.1.f2 f1 f2 rfl rfl, hK f1 f2 I.2.2 rfl rfl⟩
theorem ow_game (hK : KD K K') (a b c : Int32) : BothW ad d μX11_game μX12_game [.int a, .int b, .int c] (InvK K) (InvK K') := fun m I => by
  refine (s_X11_game I.1).to ?_
  rintro _ m1 ⟨w1, f1, v, rfl⟩
  refine ⟨⟨_, rfl⟩, (s_X12_game w1).to ?_⟩
  rintro _ m2 ⟨w2, f2, v2, rfl⟩
  exact ⟨⟨_, rfl⟩, w2, I.2.1.f2 f1 f2 rfl rfl, hK f1 f2 I.2.2 rfl rfl⟩
theorem ow_odds (hK : KD K K') (a b : Int32) : BothW ad d μX11_odds μX12_odds [.int a, .int b] (InvK K) (InvK K') := fun m I => by
  refine (s_X11_odds I.1).to ?_
  rintro _ m1 ⟨w1, f1, v, rfl⟩
  refine ⟨⟨_, rfl⟩, (s_X12_odds w1).to ?_⟩
  rintro _ m2 ⟨w2, f2, v2, rfl⟩
  exact ⟨⟨_, rfl⟩, w2, I.2.1.f2 f1 f2 rfl rfl, hK f1 f2 I.2.2 rfl rfl⟩
theorem ow_play (hK : KD K K') (a b c : Int32) : BothW ad d μX11_play μX12_play [.int a, .int b, .int c] (InvK K) (InvK K') := fun m I => by
  refine (s_X11_play I.1).to ?_
  rintro _ m1 ⟨w1, f1, v, rfl⟩
  refine ⟨⟨_, rfl⟩, (s_X12_play w1).to ?_⟩
  rintro _ m2 ⟨w2, f2, v2, rfl⟩
  exact ⟨⟨_, rfl⟩, w2, I.2.1.f2 f1 f2 rfl rfl, hK f1 f2 I.2.2 rfl rfl⟩
theorem ow_undo (hK : KD K K') : BothW ad d μX11_undo μX12_undo [] (InvK K) (InvK K') := fun m I => by
  refine (s_X11_undo I.1).to ?_
  rintro _ m1 ⟨w1, f1, v, rfl⟩
  refine ⟨⟨_, rfl⟩, (s_X12_undo w1).to ?_⟩
  rintro _ m2 ⟨w2, f2, v2, rfl⟩
  exact ⟨⟨_, rfl⟩, w2, I.2.1.f2 f1 f2 rfl rfl, hK f1 f2 I.2.2 rfl rfl⟩
theorem ow_judge (hK : KD K K') (a b : Int32) : BothW ad d μX11_judge μX12_judge [.int a, .int b] (InvK K) (InvK K') := fun m I => by
  refine (s_X11_judge I.1).to ?_
  rintro _ m1 ⟨w1, f1, v, rfl⟩
  refine ⟨⟨_, rfl⟩, (s_X12_judge w1).to ?_⟩
  rintro _ m2 ⟨w2, f2, v2, rfl⟩
  exact ⟨⟨_, rfl⟩, w2, I.2.1.f2 f1 f2 rfl rfl, hK f1 f2 I.2.2 rfl rfl⟩
theorem ow_rounds (hK : KD K K') (a : Int32) : BothW ad d μX11_rounds μX12_rounds [.int a] (InvK K) (InvK K') := fun m I => by
  refine (s_X11_rounds I.1).to ?_
  rintro _ m1 ⟨w1, f1, v, rfl⟩
  refine ⟨⟨_, rfl⟩, (s_X12_rounds w1).to ?_⟩
  rintro _ m2 ⟨w2, f2, v2, rfl, -⟩
  exact ⟨⟨_, rfl⟩, w2, I.2.1.f2 f1 f2 rfl rfl, hK f1 f2 I.2.2 rfl rfl⟩
theorem ow_beats (hK : KD K K') (a : Int32) : BothW ad d μX11_beats μX12_beats [.int a] (InvK K) (InvK K') := fun m I => by
  refine (s_X11_beats I.1).to ?_
  rintro _ m1 ⟨w1, f1, v, rfl⟩
  refine ⟨⟨_, rfl⟩, (s_X12_beats w1).to ?_⟩
  rintro _ m2 ⟨w2, f2, v2, rfl⟩
  exact ⟨⟨_, rfl⟩, w2, I.2.1.f2 f1 f2 rfl rfl, hK f1 f2 I.2.2 rfl rfl⟩
theorem ow_kings (hK : KD K K') : BothW ad d μX11_kings μX12_kings [] (InvK K) (InvK K') := fun m I => by
  refine (s_X11_kings I.1).to ?_
  rintro _ m1 ⟨w1, f1, v, rfl⟩
  refine ⟨⟨_, rfl⟩, (s_X12_kings w1).to ?_⟩
  rintro _ m2 ⟨w2, f2, v2, rfl⟩
  exact ⟨⟨_, rfl⟩, w2, I.2.1.f2 f1 f2 rfl rfl, hK f1 f2 I.2.2 rfl rfl⟩
theorem ow_master (hK : KD K K') (a : Int32) : BothW ad d μX11_master μX12_master [.int a] (InvK K) (InvK K') := fun m I => by
  refine (s_X11_master I.1).to ?_
  rintro _ m1 ⟨w1, f1, v, rfl⟩
  refine ⟨⟨_, rfl⟩, (s_X12_master w1).to ?_⟩
  rintro _ m2 ⟨w2, f2, v2, rfl⟩
  exact ⟨⟨_, rfl⟩, w2, I.2.1.f2 f1 f2 rfl rfl, hK f1 f2 I.2.2 rfl rfl⟩
set_option maxHeartbeats 1000000 in
theorem os_table (hK : KD K K') : Both ad d μX11_table μX12_table [] (InvK K) (InvK K') := fun m I => by
  have hS : (m.1 3 3).toInt = (m.1 187 1).toInt := congrArg _ I.2.1.2.2.1
  have hN : (m.1 0 15).toInt = (m.1 187 52).toInt := congrArg _ I.2.1.2.2.2.2
  refine (s_X11_table I.1).to ?_
  rintro _ m1 ⟨w1, f1, v, rfl, p1⟩
  have g1 : (m1.1 187 1).toInt = (m.1 187 1).toInt := congrArg _ (f1.at (nRS (ρ := 23) rfl rfl))
  have g52 : (m1.1 187 52).toInt = (m.1 187 52).toInt := congrArg _ (f1.at (nRS (ρ := 39) rfl rfl))
  refine ⟨v, rfl, (s_X12_table w1).to ?_⟩
  rintro _ m2 ⟨w2, f2, v2, rfl, p2⟩
  exact ⟨congrArg (fun z => some (Value.int z)) ((fa_eq _ _).mpr (by omega)), w2, I.2.1.f2 f1 f2 rfl rfl, hK f1 f2 I.2.2 rfl rfl⟩
theorem ow_spread (hK : KD K K') : BothW ad d μX11_spread μX12_spread [] (InvK K) (InvK K') := fun m I => by
  refine (s_X11_spread I.1).to ?_
  rintro _ m1 ⟨w1, f1, v, rfl⟩
  refine ⟨⟨_, rfl⟩, (s_X12_spread w1).to ?_⟩
  rintro _ m2 ⟨w2, f2, v2, rfl⟩
  exact ⟨⟨_, rfl⟩, w2, I.2.1.f2 f1 f2 rfl rfl, hK f1 f2 I.2.2 rfl rfl⟩
theorem ow_rest (hK : KD K K') : BothW ad d μX11_rest μX12_rest [] (InvK K) (InvK K') := fun m I => by
  refine (s_X11_rest I.1).to ?_
  rintro _ m1 ⟨w1, f1, v, rfl⟩
  refine ⟨⟨_, rfl⟩, (s_X12_rest w1).to ?_⟩
  rintro _ m2 ⟨w2, f2, v2, rfl⟩
  exact ⟨⟨_, rfl⟩, w2, I.2.1.f2 f1 f2 rfl rfl, hK f1 f2 I.2.2 rfl rfl⟩
theorem ow_mean (hK : KD K K') (a b : Int32) : BothW ad d μX11_mean μX12_mean [.int a, .int b] (InvK K) (InvK K') := fun m I => by
  refine (s_X11_mean I.1).to ?_
  rintro _ m1 ⟨w1, f1, v, rfl⟩
  refine ⟨⟨_, rfl⟩, (s_X12_mean w1).to ?_⟩
  rintro _ m2 ⟨w2, f2, v2, rfl⟩
  exact ⟨⟨_, rfl⟩, w2, I.2.1.f2 f1 f2 rfl rfl, hK f1 f2 I.2.2 rfl rfl⟩
theorem ow_soon (hK : KD K K') (a b c : Int32) : BothW ad d μX11_soon μX12_soon [.int a, .int b, .int c] (InvK K) (InvK K') := fun m I => by
  refine (s_X11_soon I.1).to ?_
  rintro _ m1 ⟨w1, f1, v, rfl⟩
  refine ⟨⟨_, rfl⟩, (s_X12_soon w1).to ?_⟩
  rintro _ m2 ⟨w2, f2, v2, rfl⟩
  exact ⟨⟨_, rfl⟩, w2, I.2.1.f2 f1 f2 rfl rfl, hK f1 f2 I.2.2 rfl rfl⟩
theorem ow_top (hK : KD K K') (a b c : Int32) : BothW ad d μX11_top μX12_top [.int a, .int b, .int c] (InvK K) (InvK K') := fun m I => by
  refine (s_X11_top I.1).to ?_
  rintro _ m1 ⟨w1, f1, v, rfl⟩
  refine ⟨⟨_, rfl⟩, (s_X12_top w1).to ?_⟩
  rintro _ m2 ⟨w2, f2, v2, rfl⟩
  exact ⟨⟨_, rfl⟩, w2, I.2.1.f2 f1 f2 rfl rfl, hK f1 f2 I.2.2 rfl rfl⟩
theorem ow_quick (hK : KD K K') (a : Int32) : BothW ad d μX11_quick μX12_quick [.int a] (InvK K) (InvK K') := fun m I => by
  refine (s_X11_quick I.1).to ?_
  rintro _ m1 ⟨w1, f1, v, rfl⟩
  refine ⟨⟨_, rfl⟩, (s_X12_quick w1).to ?_⟩
  rintro _ m2 ⟨w2, f2, v2, rfl⟩
  exact ⟨⟨_, rfl⟩, w2, I.2.1.f2 f1 f2 rfl rfl, hK f1 f2 I.2.2 rfl rfl⟩
theorem ow_best (hK : KD K K') (a b : Int32) : BothW ad d μX11_best μX12_best [.int a, .int b] (InvK K) (InvK K') := fun m I => by
  refine (s_X11_best I.1).to ?_
  rintro _ m1 ⟨w1, f1, v, rfl⟩
  refine ⟨⟨_, rfl⟩, (s_X12_best w1).to ?_⟩
  rintro _ m2 ⟨w2, f2, v2, rfl⟩
  exact ⟨⟨_, rfl⟩, w2, I.2.1.f2 f1 f2 rfl rfl, hK f1 f2 I.2.2 rfl rfl⟩
theorem ow_even (hK : KD K K') (a : Int32) : BothW ad d μX11_even μX12_even [.int a] (InvK K) (InvK K') := fun m I => by
  refine (s_X11_even I.1).to ?_
  rintro _ m1 ⟨w1, f1, v, rfl⟩
  refine ⟨⟨_, rfl⟩, (s_X12_even w1).to ?_⟩
  rintro _ m2 ⟨w2, f2, v2, rfl⟩
  exact ⟨⟨_, rfl⟩, w2, I.2.1.f2 f1 f2 rfl rfl, hK f1 f2 I.2.2 rfl rfl⟩
theorem ow_all (hK : KD K K') : BothW ad d μX11_all μX12_all [] (InvK K) (InvK K') := fun m I => by
  refine (s_X11_all I.1).to ?_
  rintro _ m1 ⟨w1, f1, v, rfl⟩
  refine ⟨⟨_, rfl⟩, (s_X12_all w1).to ?_⟩
  rintro _ m2 ⟨w2, f2, v2, rfl⟩
  exact ⟨⟨_, rfl⟩, w2, I.2.1.f2 f1 f2 rfl rfl, hK f1 f2 I.2.2 rfl rfl⟩
theorem ow_next (hK : KD K K') (a : Int32) : BothW ad d μX11_next μX12_next [.int a] (InvK K) (InvK K') := fun m I => by
  refine (s_X11_next I.1).to ?_
  rintro _ m1 ⟨w1, f1, v, rfl⟩
  refine ⟨⟨_, rfl⟩, (s_X12_next w1).to ?_⟩
  rintro _ m2 ⟨w2, f2, v2, rfl⟩
  exact ⟨⟨_, rfl⟩, w2, I.2.1.f2 f1 f2 rfl rfl, hK f1 f2 I.2.2 rfl rfl⟩
set_option maxHeartbeats 1000000 in
theorem os_seen (hK : KD K K') (a b c : Int32) : Both ad d μX11_seen μX12_seen [.int a, .int b, .int c] (InvK K) (InvK K') := fun m I => by
  have hS : (m.1 3 3).toInt = (m.1 187 1).toInt := congrArg _ I.2.1.2.2.1
  have hN : (m.1 0 15).toInt = (m.1 187 52).toInt := congrArg _ I.2.1.2.2.2.2
  refine (s_X11_seen I.1).to ?_
  rintro _ m1 ⟨w1, f1, v, rfl, p1⟩
  have g1 : (m1.1 187 1).toInt = (m.1 187 1).toInt := congrArg _ (f1.at (nRS (ρ := 23) rfl rfl))
  have g52 : (m1.1 187 52).toInt = (m.1 187 52).toInt := congrArg _ (f1.at (nRS (ρ := 39) rfl rfl))
  refine ⟨v, rfl, (s_X12_seen w1).to ?_⟩
  rintro _ m2 ⟨w2, f2, v2, rfl, p2⟩
  have h33 : m2.1 3 3 = m2.1 187 1 := by
    rw [f2.at (a := 3) (k := 3) (nRS (ρ := 41) rfl rfl), f2.at (a := 187) (k := 1) (nRS (ρ := 23) rfl rfl), f1.at (a := 3) (k := 3) (nRS (ρ := 41) rfl rfl), f1.at (a := 187) (k := 1) (nRS (ρ := 23) rfl rfl)]; exact I.2.1.2.2.1
  have h34 : m2.1 3 4 = m2.1 187 0 := by
    rw [f2.at (a := 3) (k := 4) (nRS (ρ := 41) rfl rfl), f2.at (a := 187) (k := 0) (nRS (ρ := 23) rfl rfl), f1.at (a := 3) (k := 4) (nRS (ρ := 41) rfl rfl), f1.at (a := 187) (k := 0) (nRS (ρ := 23) rfl rfl)]; exact I.2.1.2.2.2.1
  have g15 : (m2.1 0 15).toInt = (m1.1 0 15).toInt := congrArg _ (f2.at (nRS (ρ := 8) rfl rfl))
  exact ⟨congrArg (fun z => some (Value.int z)) ((fa_eq _ _).mpr (by omega)), w2, ⟨(I.2.1.1.fx f1 rfl).fx f2 rfl, (I.2.1.2.1.fx f1 rfl rfl).fx f2 rfl rfl, h33, h34, (fa_eq _ _).mpr (by omega)⟩, hK f1 f2 I.2.2 rfl rfl⟩
theorem ow_found (hK : KD K K') : BothW ad d μX11_found μX12_found [] (InvK K) (InvK K') := fun m I => by
  refine (s_X11_found I.1).to ?_
  rintro _ m1 ⟨w1, f1, v, rfl⟩
  refine ⟨⟨_, rfl⟩, (s_X12_found w1).to ?_⟩
  rintro _ m2 ⟨w2, f2, v2, rfl⟩
  exact ⟨⟨_, rfl⟩, w2, I.2.1.f2 f1 f2 rfl rfl, hK f1 f2 I.2.2 rfl rfl⟩
theorem ow_prize (hK : KD K K') : BothW ad d μX11_prize μX12_prize [] (InvK K) (InvK K') := fun m I => by
  refine (s_X11_prize I.1).to ?_
  rintro _ m1 ⟨w1, f1, v, rfl⟩
  refine ⟨⟨_, rfl⟩, (s_X12_prize w1).to ?_⟩
  rintro _ m2 ⟨w2, f2, v2, rfl⟩
  exact ⟨⟨_, rfl⟩, w2, I.2.1.f2 f1 f2 rfl rfl, hK f1 f2 I.2.2 rfl rfl⟩
theorem ow_pays (hK : KD K K') (a b : Int32) : BothW ad d μX11_pays μX12_pays [.int a, .int b] (InvK K) (InvK K') := fun m I => by
  refine (s_X11_pays I.1).to ?_
  rintro _ m1 ⟨w1, f1, v, rfl⟩
  refine ⟨⟨_, rfl⟩, (s_X12_pays w1).to ?_⟩
  rintro _ m2 ⟨w2, f2, v2, rfl⟩
  exact ⟨⟨_, rfl⟩, w2, I.2.1.f2 f1 f2 rfl rfl, hK f1 f2 I.2.2 rfl rfl⟩
theorem ow_seed (hK : KD K K') (a : Int32) : BothW ad d μX11_seed μX12_seed [.int a] (InvK K) (InvK K') := fun m I => by
  refine (s_X11_seed I.1).to ?_
  rintro _ m1 ⟨w1, f1, v, rfl⟩
  refine ⟨⟨_, rfl⟩, (s_X12_seed w1).to ?_⟩
  rintro _ m2 ⟨w2, f2, v2, rfl⟩
  exact ⟨⟨_, rfl⟩, w2, I.2.1.f2 f1 f2 rfl rfl, hK f1 f2 I.2.2 rfl rfl⟩
theorem ow_count (hK : KD K K') (a : Int32) : BothW ad d μX11_count μX12_count [.int a] (InvK K) (InvK K') := fun m I => by
  refine (s_X11_count I.1).to ?_
  rintro _ m1 ⟨w1, f1, v, rfl⟩
  refine ⟨⟨_, rfl⟩, (s_X12_count w1).to ?_⟩
  rintro _ m2 ⟨w2, f2, v2, rfl⟩
  exact ⟨⟨_, rfl⟩, w2, I.2.1.f2 f1 f2 rfl rfl, hK f1 f2 I.2.2 rfl rfl⟩
theorem rg_or {m1 m2 : Wm} (h : RG m1) (q : (m2.1 187 10 = m1.1 187 10 ∧ m2.1 187 11 = m1.1 187 11) ∨ (m2.1 187 11).toInt = 0 ∨ 1 ≤ (m2.1 187 10).toInt) : RG m2 := by
  unfold RG at h ⊢
  rcases q with ⟨q1, q2⟩ | q | q
  · rw [q1, q2]; exact h
  · exact Or.inl q
  · exact Or.inr q
theorem ow_rule (hK : KD K K') : BothW ad d μX11_rule μX12_rule [] (InvK K) (InvK K') := fun m I => by
  refine (s_X11_rule I.1).to ?_
  rintro _ m1 ⟨w1, f1, v, rfl, p1⟩
  refine ⟨⟨_, rfl⟩, (s_X12_rule w1).to ?_⟩
  rintro _ m2 ⟨w2, f2, ⟨v2, rfl⟩, p2⟩
  have e11 : (m2.1 1 1).toInt = (m1.1 1 1).toInt := congrArg _ (f2.at (nRS (ρ := 0) rfl rfl))
  exact ⟨⟨_, rfl⟩, w2, ⟨(I.2.1.1.fx f1 rfl).fx f2 rfl, TXI.zero (by omega) p2, IV.sd I.2.1 f1 f2 rfl rfl⟩, hK f1 f2 I.2.2 rfl rfl⟩
end OPB
