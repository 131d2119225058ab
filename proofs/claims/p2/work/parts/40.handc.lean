/-! the model's layouts of its league keep types and regions; what they change -/
section LB
variable {ad : Nat → Nat} {d : Nat} {m : Wm}
theorem WT.same {m m' : Wm} (h : WT m) (h1 : ∀ a k, TY a k ≠ none → m'.1 a k = m.1 a k) (h2 : m'.2.2 = m.2.2) : WT m' := by
  refine ⟨fun a k lo hi e => ?_, by rw [h2]; exact h.2⟩
  rw [h1 a k (by rw [e]; exact fun q => by cases q)]
  exact h.1 a k lo hi e
theorem s_lay {a na reg : Nat} {x2 : Int32} (ha : LAY[a]? = some (.inr (0, na))) (hn : ∀ b ∈ [187, 188, 190, 191, 192], b ≠ a) (hb : na < 100000) (hty : ∀ k, TY a k = none) (hrg : ∀ k, RS [reg] a k) (w : WT m) (i1 : (0 : Int) ≤ x2.toInt) (i2 : x2.toInt + 57 ≤ (na : Int)) : Ct ad μX12_lay d [.ref (ad 187), .ref (ad a), .int x2] m (fun r m' => WT m' ∧ Fx (RS [reg]) m m' ∧ r = none) := by
  obtain ⟨s, hs, rfl⟩ := zn_of i1
  rw [nI_toInt hs] at i2
  refine (layC ha hn (by omega) hb).to ?_
  rintro _ m' ⟨rfl, e⟩
  obtain rfl := e
  refine ⟨w.same (fun b k h => layM_at (fun q => h (by rw [q]; exact hty k))) rfl, fun b k h => ⟨layM_at (fun q => h (by rw [q]; exact hrg k)), rfl, rfl⟩, rfl⟩
theorem tgt_rg : ∀ i : Fin 57, TY (tgt i.val).1 (tgt i.val).2 = none ∧ rg (tgt i.val).1 (tgt i.val).2 = 24 := by decide +kernel
theorem RS_of {a k ρ : Nat} (h : rg a k = ρ) : RS [ρ] a k := by subst h; unfold RS; simp
theorem s_bring {a na : Nat} {x2 : Int32} (ha : LAY[a]? = some (.inr (0, na))) (hn : ∀ b ∈ [187, 188, 190, 191, 192], b ≠ a) (hb : na < 100000) (w : WT m) (i1 : (0 : Int) ≤ x2.toInt) (i2 : x2.toInt + 57 ≤ (na : Int)) : Ct ad μX12_bring d [.ref (ad 187), .ref (ad a), .int x2] m (fun r m' => WT m' ∧ Fx (RS [24]) m m' ∧ r = none) := by
  obtain ⟨s, hs, rfl⟩ := zn_of i1
  rw [nI_toInt hs] at i2
  refine (bringC ha hn (by omega) hb).to ?_
  rintro _ m' ⟨rfl, e⟩
  obtain rfl := e
  refine ⟨w.same (fun b k h => brM_out (fun i q => h ?_) (Nat.le_refl _)) (congrArg Prod.snd (brM_2 57)), fun b k h => ⟨brM_out (fun i q => h ?_) (Nat.le_refl _), ?_, ?_⟩, rfl⟩
  · have := (tgt_rg i).1; rw [q] at this; exact this
  · have := (tgt_rg i).2; rw [q] at this; exact RS_of this
  · rw [brM_2 57]
  · rw [brM_2 57]
theorem s_X12_lay_201 {x2 : Int32} (w : WT m) (i1 : (0 : Int) ≤ x2.toInt) (i2 : x2.toInt ≤ (1083 : Int)) : Ct ad μX12_lay d [.ref (ad 187), .ref (ad 201), .int x2] m (fun r m' => WT m' ∧ Fx (RS [29]) m m' ∧ r = none) := s_lay (na := 1140) rfl (by decide) (by decide) (fun _ => rfl) (fun _ => rfl) w i1 (by omega)
theorem s_X12_bring_201 {x2 : Int32} (w : WT m) (i1 : (0 : Int) ≤ x2.toInt) (i2 : x2.toInt ≤ (1083 : Int)) : Ct ad μX12_bring d [.ref (ad 187), .ref (ad 201), .int x2] m (fun r m' => WT m' ∧ Fx (RS [24]) m m' ∧ r = none) := s_bring (na := 1140) rfl (by decide) (by decide) w i1 (by omega)
theorem s_X12_lay_202 {x2 : Int32} (w : WT m) (i1 : (0 : Int) ≤ x2.toInt) (i2 : x2.toInt ≤ (0 : Int)) : Ct ad μX12_lay d [.ref (ad 187), .ref (ad 202), .int x2] m (fun r m' => WT m' ∧ Fx (RS [30]) m m' ∧ r = none) := s_lay (na := 57) rfl (by decide) (by decide) (fun _ => rfl) (fun _ => rfl) w i1 (by omega)
theorem s_X12_bring_202 {x2 : Int32} (w : WT m) (i1 : (0 : Int) ≤ x2.toInt) (i2 : x2.toInt ≤ (0 : Int)) : Ct ad μX12_bring d [.ref (ad 187), .ref (ad 202), .int x2] m (fun r m' => WT m' ∧ Fx (RS [24]) m m' ∧ r = none) := s_bring (na := 57) rfl (by decide) (by decide) w i1 (by omega)
theorem s_X12_lay_204 {x2 : Int32} (w : WT m) (i1 : (0 : Int) ≤ x2.toInt) (i2 : x2.toInt ≤ (0 : Int)) : Ct ad μX12_lay d [.ref (ad 187), .ref (ad 204), .int x2] m (fun r m' => WT m' ∧ Fx (RS [34]) m m' ∧ r = none) := s_lay (na := 57) rfl (by decide) (by decide) (fun _ => rfl) (fun _ => rfl) w i1 (by omega)
theorem s_X12_bring_204 {x2 : Int32} (w : WT m) (i1 : (0 : Int) ≤ x2.toInt) (i2 : x2.toInt ≤ (0 : Int)) : Ct ad μX12_bring d [.ref (ad 187), .ref (ad 204), .int x2] m (fun r m' => WT m' ∧ Fx (RS [24]) m m' ∧ r = none) := s_bring (na := 57) rfl (by decide) (by decide) w i1 (by omega)
theorem s_X12_lay_211 {x2 : Int32} (w : WT m) (i1 : (0 : Int) ≤ x2.toInt) (i2 : x2.toInt ≤ (342 : Int)) : Ct ad μX12_lay d [.ref (ad 187), .ref (ad 211), .int x2] m (fun r m' => WT m' ∧ Fx (RS [36]) m m' ∧ r = none) := s_lay (na := 399) rfl (by decide) (by decide) (fun _ => rfl) (fun _ => rfl) w i1 (by omega)
theorem s_X12_bring_211 {x2 : Int32} (w : WT m) (i1 : (0 : Int) ≤ x2.toInt) (i2 : x2.toInt ≤ (342 : Int)) : Ct ad μX12_bring d [.ref (ad 187), .ref (ad 211), .int x2] m (fun r m' => WT m' ∧ Fx (RS [24]) m m' ∧ r = none) := s_bring (na := 399) rfl (by decide) (by decide) w i1 (by omega)
theorem s_X12_lay_214 {x2 : Int32} (w : WT m) (i1 : (0 : Int) ≤ x2.toInt) (i2 : x2.toInt ≤ (71 : Int)) : Ct ad μX12_lay d [.ref (ad 187), .ref (ad 214), .int x2] m (fun r m' => WT m' ∧ Fx (RS [40]) m m' ∧ r = none) := s_lay (na := 142) rfl (by decide) (by decide) (fun _ => rfl) (fun _ => rfl) w i1 (by omega)
theorem s_X12_bring_214 {x2 : Int32} (w : WT m) (i1 : (0 : Int) ≤ x2.toInt) (i2 : x2.toInt ≤ (71 : Int)) : Ct ad μX12_bring d [.ref (ad 187), .ref (ad 214), .int x2] m (fun r m' => WT m' ∧ Fx (RS [24]) m m' ∧ r = none) := s_bring (na := 142) rfl (by decide) (by decide) w i1 (by omega)
end LB
