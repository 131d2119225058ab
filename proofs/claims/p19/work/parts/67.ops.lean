/-! ALL CALLS BUT of AND row, FROM THE INVARIANT TO THE INVARIANT -/
section OPB
variable {ad : Nat → Nat} {d : Nat} {K K' : Wm → Prop}
set_option maxHeartbeats 1000000 in
theorem os_table (hK : KD K K') : Both ad d μX11_table μX12_table [] (InvK K) (InvK K') := fun m I => by
  have hS : (m.1 3 3).toInt = (m.1 187 1).toInt := congrArg _ I.2.1.2.2.1
  have hN : (m.1 0 15).toInt = (m.1 187 52).toInt := congrArg _ I.2.1.2.2.2.2
  refine (s_X11_table I.1).to ?_
  rintro _ m1 ⟨w1, f1, v, rfl, p1⟩
  have g1 : (m1.1 187 1).toInt = (m.1 187 1).toInt := congrArg _ (f1.at (nRS (ρ := 23) rfl rfl))
  have g52 : (m1.1 187 52).toInt = (m.1 187 52).toInt := congrArg _ (f1.at (nRS (ρ := 39) rfl rfl))
  refine ⟨v, rfl, (s_X12_table w1).to ?_⟩
  rintro _ m2 ⟨w2, f2, v2, rfl, p2⟩
  exact ⟨congrArg (fun z => some (Value.int z)) ((fa_eq _ _).mpr (by omega)), w2, I.2.1.f2 f1 f2 rfl rfl, hK f1 f2 I.2.2 rfl rfl⟩
set_option maxHeartbeats 1000000 in
theorem os_seen (hK : KD K K') (a b c : Int32) : Both ad d μX11_seen μX12_seen [.int a, .int b, .int c] (InvK K) (InvK K') := fun m I => by
  have hS : (m.1 3 3).toInt = (m.1 187 1).toInt := congrArg _ I.2.1.2.2.1
  have hN : (m.1 0 15).toInt = (m.1 187 52).toInt := congrArg _ I.2.1.2.2.2.2
  refine (s_X11_seen I.1).to ?_
  rintro _ m1 ⟨w1, f1, v, rfl, p1⟩
  have g1 : (m1.1 187 1).toInt = (m.1 187 1).toInt := congrArg _ (f1.at (nRS (ρ := 23) rfl rfl))
  have g52 : (m1.1 187 52).toInt = (m.1 187 52).toInt := congrArg _ (f1.at (nRS (ρ := 39) rfl rfl))
  refine ⟨v, rfl, (s_X12_seen w1).to ?_⟩
  rintro _ m2 ⟨w2, f2, v2, rfl, p2⟩
  have h33 : m2.1 3 3 = m2.1 187 1 := by
    rw [f2.at (a := 3) (k := 3) (nRS (ρ := 41) rfl rfl), f2.at (a := 187) (k := 1) (nRS (ρ := 23) rfl rfl), f1.at (a := 3) (k := 3) (nRS (ρ := 41) rfl rfl), f1.at (a := 187) (k := 1) (nRS (ρ := 23) rfl rfl)]; exact I.2.1.2.2.1
  have h34 : m2.1 3 4 = m2.1 187 0 := by
    rw [f2.at (a := 3) (k := 4) (nRS (ρ := 41) rfl rfl), f2.at (a := 187) (k := 0) (nRS (ρ := 23) rfl rfl), f1.at (a := 3) (k := 4) (nRS (ρ := 41) rfl rfl), f1.at (a := 187) (k := 0) (nRS (ρ := 23) rfl rfl)]; exact I.2.1.2.2.2.1
  have g15 : (m2.1 0 15).toInt = (m1.1 0 15).toInt := congrArg _ (f2.at (nRS (ρ := 8) rfl rfl))
  exact ⟨congrArg (fun z => some (Value.int z)) ((fa_eq _ _).mpr (by omega)), w2, ⟨(I.2.1.1.fx f1 rfl).fx f2 rfl, (I.2.1.2.1.fx f1 rfl rfl).fx f2 rfl rfl, h33, h34, (fa_eq _ _).mpr (by omega)⟩, hK f1 f2 I.2.2 rfl rfl⟩
theorem ow_found (hK : KD K K') : BothW ad d μX11_found μX12_found [] (InvK K) (InvK K') := fun m I => by
  refine (s_X11_found I.1).to ?_
  rintro _ m1 ⟨w1, f1, v, rfl⟩
  refine ⟨⟨_, rfl⟩, (s_X12_found w1).to ?_⟩
  rintro _ m2 ⟨w2, f2, v2, rfl⟩
  exact ⟨⟨_, rfl⟩, w2, I.2.1.f2 f1 f2 rfl rfl, hK f1 f2 I.2.2 rfl rfl⟩
theorem ow_count (hK : KD K K') (a : Int32) : BothW ad d μX11_count μX12_count [.int a] (InvK K) (InvK K') := fun m I => by
  refine (s_X11_count I.1).to ?_
  rintro _ m1 ⟨w1, f1, v, rfl⟩
  refine ⟨⟨_, rfl⟩, (s_X12_count w1).to ?_⟩
  rintro _ m2 ⟨w2, f2, v2, rfl⟩
  exact ⟨⟨_, rfl⟩, w2, I.2.1.f2 f1 f2 rfl rfl, hK f1 f2 I.2.2 rfl rfl⟩
theorem rg_or {m1 m2 : Wm} (h : RG m1) (q : (m2.1 187 10 = m1.1 187 10 ∧ m2.1 187 11 = m1.1 187 11) ∨ (m2.1 187 11).toInt = 0 ∨ 1 ≤ (m2.1 187 10).toInt) : RG m2 := by
  unfold RG at h ⊢
  rcases q with ⟨q1, q2⟩ | q | q
  · rw [q1, q2]; exact h
  · exact Or.inl q
  · exact Or.inr q
end OPB
