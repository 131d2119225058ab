/-! ALL CALLS BUT of AND row, FROM THE INVARIANT TO THE INVARIANT -/
section OPB
variable {ad : Nat → Nat} {d : Nat} {K K' : Wm → Prop}
set_option maxHeartbeats 1000000 in
theorem os_table (hK : KD K K') : Both ad d μX11_table μX12_table [] (InvK K) (InvK K') := fun m I => by
  have hS : (m.1 3 3).toInt = (m.1 187 1).toInt := congrArg _ I.2.1.2.2.1
  have hN : (m.1 0 15).toInt = (m.1 187 52).toInt := congrArg _ I.2.1.2.2.2.2.1
  refine (s_X11_table I.1).to ?_
  rintro _ m1 ⟨w1, f1, v, rfl, p1⟩
  have g1 : (m1.1 187 1).toInt = (m.1 187 1).toInt := congrArg _ (f1.at (nRS (ρ := 23) rfl rfl))
  have g52 : (m1.1 187 52).toInt = (m.1 187 52).toInt := congrArg _ (f1.at (nRS (ρ := 39) rfl rfl))
  refine ⟨v, rfl, (s_X12_table w1).to ?_⟩
  rintro _ m2 ⟨w2, f2, v2, rfl, p2⟩
  exact ⟨congrArg (fun z => some (Value.int z)) ((fa_eq _ _).mpr (by omega)), w2, I.2.1.f2 f1 f2 rfl rfl, hK f1 f2 I.2.2 rfl rfl⟩
theorem ow_count (hK : KD K K') (a : Int32) : BothW ad d μX11_count μX12_count [.int a] (InvK K) (InvK K') := fun m I => by
  refine (s_X11_count I.1).to ?_
  rintro _ m1 ⟨w1, f1, v, rfl⟩
  refine ⟨⟨_, rfl⟩, (s_X12_count w1).to ?_⟩
  rintro _ m2 ⟨w2, f2, v2, rfl⟩
  exact ⟨⟨_, rfl⟩, w2, I.2.1.f2 f1 f2 rfl rfl, hK f1 f2 I.2.2 rfl rfl⟩
theorem rg_or {m1 m2 : Wm} (h : RG m1) (q : (m2.1 187 10 = m1.1 187 10 ∧ m2.1 187 11 = m1.1 187 11) ∨ (m2.1 187 11).toInt = 0 ∨ 1 ≤ (m2.1 187 10).toInt) : RG m2 := by
  unfold RG at h ⊢
  rcases q with ⟨q1, q2⟩ | q | q
  · rw [q1, q2]; exact h
  · exact Or.inl q
  · exact Or.inr q
end OPB
