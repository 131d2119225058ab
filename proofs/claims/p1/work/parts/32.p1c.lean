/-! ONE CALL ON NEW OBJECTS: the longer ones -/
section P1C
variable {ad : Nat → Nat} {d : Nat} {m : Wm}
abbrev LawC (w v : Int32) : Prop := (w = 0 ∧ 0 ≤ v ∧ v ≤ 3) ∨ (w = 1 ∧ 1 ≤ v ∧ v ≤ 3) ∨ (w = 2 ∧ 0 ≤ v ∧ v ≤ 2) ∨ (w = 3 ∧ 0 ≤ v ∧ v ≤ 99) ∨ (w = 4 ∧ 0 ≤ v ∧ v ≤ 50)
theorem law50 {w v lo hi c : Int32} (hy : (0 ≤ w ∧ w ≤ 4) → (lo ≤ v ∧ v ≤ hi) → c = m.1 193 w.toNatClampNeg) (hn : ¬ ((0 ≤ w ∧ w ≤ 4) ∧ (lo ≤ v ∧ v ≤ hi)) → c = -1) : AW ad E0 μX12_law (d + 1) (Re c) 50 [(0, .ref (ad 187)), (1, .int w), (2, .int v), (3, .int lo)] [.int hi] m := by
  refine g_X12_law_50 ((in_i (lo := 0) (hi := 4) rfl rfl).to ?_)
  rintro _ _ ⟨rfl, rfl⟩
  by_cases h1 : 0 ≤ w ∧ w ≤ 4
  · rw [if_pos h1]
    refine ⟨1, rfl, fun h => absurd h (by decide), fun _ => (in_i rfl rfl).to ?_⟩
    rintro _ _ ⟨rfl, rfl⟩
    have hv : vp_in w 5 := vp_in_iff.mpr (by have a1 := (fa_le _ _).mp h1.1; have a2 := (fa_le _ _).mp h1.2; have e1 : (0 : Int32).toInt = 0 := rfl; have e2 : (4 : Int32).toInt = 4 := rfl; omega)
    by_cases h2 : lo ≤ v ∧ v ≤ hi
    · rw [if_pos h2]
      exact ⟨1, rfl, fun _ => ⟨hv, hv, by rw [hy h1 h2]⟩, fun h => absurd h (by decide)⟩
    · rw [if_neg h2]
      exact ⟨0, rfl, fun h => absurd rfl h, fun _ => by rw [hn (fun q => h2 q.2)]⟩
  · rw [if_neg h1]
    exact ⟨0, rfl, fun _ => by rw [hn (fun q => h1 q.1)], fun h => absurd rfl h⟩
theorem k_law {w v : Int32} : Ct ad μX12_law (d + 1) [.ref (ad 187), .int w, .int v] m (Re (if LawC w v then m.1 193 w.toNatClampNeg else -1)) := by
  have b1 : ¬ (1 : Int32) = 0 := by decide
  have b2 : ¬ (2 : Int32) = 0 := by decide
  have b3 : ¬ (3 : Int32) = 0 := by decide
  refine v_X12_law ⟨fun h1 => g_X12_law_15 ⟨fun h0 => ?_, fun h0 => ⟨fun _ => ⟨fun h2 => ⟨fun h3 => ?_, fun h3 => ?_⟩, fun h2 => ?_⟩, fun h => absurd h h1⟩⟩, fun h1 => g_X12_law_15 ⟨fun h0 => absurd (h1.symm.trans h0) (by decide), fun h0 => ⟨fun h => absurd h1 h, fun _ => ?_⟩⟩⟩
  · subst h0
    exact law50 (fun _ h => by rw [if_pos (Or.inl ⟨rfl, h⟩)]; rfl) (fun h => if_neg (fun q => h ⟨by decide, by rcases q with q | q | q | q | q <;> first | exact q.2 | exact absurd q.1 (by decide)⟩))
  · refine law50 (fun h hv => ?_) (fun h => ?_)
    · by_cases h4 : w = 4
      · subst h4
        rw [if_pos (Or.inr (Or.inr (Or.inr (Or.inr ⟨rfl, hv⟩))))]; rfl
      · exfalso
        have a1 := (fa_le _ _).mp h.1
        have a2 := (fa_le _ _).mp h.2
        simp only [fa_eq] at h0 h1 h2 h3 h4
        have e0 : (0 : Int32).toInt = 0 := rfl
        have e1 : (1 : Int32).toInt = 1 := rfl
        have e2 : (2 : Int32).toInt = 2 := rfl
        have e3 : (3 : Int32).toInt = 3 := rfl
        have e4 : (4 : Int32).toInt = 4 := rfl
        omega
    · refine if_neg (fun q => ?_)
      rcases q with q | q | q | q | q
      · exact h0 q.1
      · exact h1 q.1
      · exact h2 q.1
      · exact h3 q.1
      · exact h ⟨by rw [q.1]; decide, q.2⟩
  · subst h3
    exact law50 (fun _ h => by rw [if_pos (Or.inr (Or.inr (Or.inr (Or.inl ⟨rfl, h⟩))))]; rfl) (fun h => if_neg (fun q => h ⟨by decide, by rcases q with q | q | q | q | q <;> first | exact absurd q.1 (by decide) | exact q.2⟩))
  · subst h2
    exact law50 (fun _ h => by rw [if_pos (Or.inr (Or.inr (Or.inl ⟨rfl, h⟩)))]; rfl) (fun h => if_neg (fun q => h ⟨by decide, by rcases q with q | q | q | q | q <;> first | exact absurd q.1 (by decide) | exact q.2⟩))
  · subst h1
    exact law50 (fun _ h => by rw [if_pos (Or.inr (Or.inl ⟨rfl, h⟩))]; rfl) (fun h => if_neg (fun q => h ⟨by decide, by rcases q with q | q | q | q | q <;> first | exact absurd q.1 (by decide) | exact q.2⟩))
/-! sheet -/
def shA (a k n : Int32) : Int32 := if a < 0 then -1 else if 2 ≤ a then -1 else if k < 0 then -1 else if 3 < k then -1 else if n ≤ 8 then (if k = 3 then -3 else if 0 ≤ n then 0 else -2) else -1
theorem c_sheet {a k n f s : Int32} (h : m.1 3 3 = 0) (h4 : m.1 3 4 = 2) : Ct ad μX11_sheet (d + 1) [.ref (ad 0), .int a, .int k, .int n, .int f, .int s] m (Ans m (shA a k n)) := by
  refine v_X11_sheet (knowsX.to ?_)
  rintro _ m1 ⟨rfl, rfl⟩
  rw [h4]
  have e58 : ∀ x6 : Int32, (x6 = 0 → shA a k n = 0) → (¬ x6 = 0 → shA a k n = -3) → AW ad E0 μX11_sheet (d + 1) (Ans m1 (shA a k n)) 58 [(0, .ref (ad 0)), (1, .int a), (2, .int k), (3, .int n), (4, .int f), (5, .int s), (6, .int x6), (7, .int 0), (8, .int 0)] [] m1 := fun x6 h1 h2 =>
    g_X11_sheet_58 ⟨fun _ => ⟨fun h6 => ⟨by rw [h1 h6], Sm.rf.i (by decide)⟩, fun h6 => ⟨by rw [h2 h6], Sm.rf.i (by decide)⟩⟩, fun h1 => absurd (by rw [h]; decide) h1⟩
  by_cases a1 : a < 0
  · refine ⟨0, by rw [if_pos a1], fun _ => ⟨by simp [shA, a1], Sm.rf⟩, fun h => absurd rfl h⟩
  · by_cases a2 : 2 ≤ a
    · refine ⟨0, by rw [if_neg a1, if_pos a2], fun _ => ⟨by simp [shA, a1, a2], Sm.rf⟩, fun h => absurd rfl h⟩
    · refine ⟨1, by rw [if_neg a1, if_neg a2], fun h => absurd h (by decide), fun _ => ⟨fun k1 => ⟨by simp [shA, a1, a2, k1], Sm.rf⟩, fun k1 => ⟨fun k2 => ⟨by simp [shA, a1, a2, k1, k2], Sm.rf⟩, fun k2 => ⟨fun n1 => ⟨fun k3 => ?_, fun k3 => ?_⟩, fun n1 => ⟨by simp [shA, a1, a2, k1, k2, n1], Sm.rf⟩⟩⟩⟩⟩
      · refine g_X11_sheet_38 ⟨fun n2 => e58 0 (fun _ => by simp [shA, a1, a2, k1, k2, n1, k3, n2]) (fun h => absurd rfl h), fun n2 => ⟨fun h => absurd rfl h, fun _ => ⟨by simp [shA, a1, a2, k1, k2, n1, k3, n2], Sm.rf⟩⟩⟩
      · have e : shA a k n = -3 := by simp only [shA, if_neg a1, if_neg a2, if_neg k1, if_neg k2, if_pos n1, if_pos k3]
        exact g_X11_sheet_38 ⟨fun _ => e58 1 (fun h => absurd h (by decide)) (fun _ => e), fun _ => ⟨fun _ => e58 1 (fun h => absurd h (by decide)) (fun _ => e), fun h => absurd h (by decide)⟩⟩
theorem k_sheet {a k n f s : Int32} (h : m.1 187 1 = 0) (h2 : m.1 187 0 = 2) : Ct ad μX12_sheet (d + 2) [.ref (ad 187), .int a, .int k, .int n, .int f, .int s] m (Re (shA a k n)) := by
  refine v_X12_sheet ((art2 (t17 h2 (by decide))).to ?_)
  rintro _ m1 ⟨rfl, rfl⟩
  have e55 : (¬ k = 3 → shA a k n = 0) → (k = 3 → shA a k n = -3) → AW ad E0 μX12_sheet (d + 2) (Re (shA a k n)) 55 [(0, .ref (ad 187)), (1, .int a), (2, .int k), (3, .int n), (5, .int s), (6, .int 0), (7, .int f), (8, .int 0)] [] (uI m 187 17 0) := fun h1 h3 =>
    g_X12_sheet_55 ⟨fun _ => ⟨fun k3 => by rw [h1 k3], fun k3 => by rw [h3 k3]⟩, fun h1 => absurd (by rw [t17 h (by decide)]; decide) h1⟩
  by_cases a1 : a < 0
  · exact ⟨0, by rw [if_pos a1], fun _ => by simp [Re, shA, a1], fun h => absurd rfl h⟩
  · by_cases a2 : 2 ≤ a
    · exact ⟨0, by rw [if_neg a1, if_pos a2], fun _ => by simp [Re, shA, a1, a2], fun h => absurd rfl h⟩
    · refine ⟨1, by rw [if_neg a1, if_neg a2], fun h => absurd h (by decide), fun _ => (in_i (lo := 0) (hi := 3) rfl rfl).to ?_⟩
      rintro _ _ ⟨rfl, rfl⟩
      by_cases k1 : k < 0
      · rw [if_neg (fun q => (fa_of_lt k1).2.1 q.1)]
        exact ⟨0, rfl, fun _ => by simp [Re, shA, a1, a2, k1], fun h => absurd rfl h⟩
      · by_cases k2 : 3 < k
        · rw [if_neg (fun q => (fa_of_lt k2).2.1 q.2)]
          exact ⟨0, rfl, fun _ => by simp [Re, shA, a1, a2, k1, k2], fun h => absurd rfl h⟩
        · rw [if_pos ⟨fa_of_nlt k1, fa_of_nlt k2⟩]
          refine ⟨1, rfl, fun h => absurd h (by decide), fun _ => ⟨fun n1 => ⟨fun k3 => ?_, fun k3 => ⟨fun n2 => ?_, fun n2 => ?_⟩⟩, fun n1 => by simp [Re, shA, a1, a2, k1, k2, n1]⟩⟩
          · have k4 : k = 3 := (fa_eq _ _).mpr (by have p1 := (fa_le _ _).mp k3; have p2 := (fa_le _ _).mp (fa_of_nlt k2); omega)
            exact e55 (fun h => absurd k4 h) (fun _ => by simp only [shA, if_neg a1, if_neg a2, if_neg k1, if_neg k2, if_pos n1, if_pos k4])
          · have k4 : ¬ k = 3 := fun q => k3 (by rw [q]; decide)
            exact e55 (fun _ => by simp [shA, a1, a2, k1, k2, n1, k4, n2]) (fun h => absurd h k4)
          · have k4 : ¬ k = 3 := fun q => k3 (by rw [q]; decide)
            simp [Re, shA, a1, a2, k1, k2, n1, k4, n2]
/-! judge -/
def juA (n : Int32) : Int32 := if n < 0 then -1 else if n ≤ 3 then (if n ≤ 0 then -2 else 0) else -1
theorem total0 {b : Nat} (hb : St b) (h : m.1 3 3 = 0) : Ct ad μX1_total (d + 1) [.ref (ad 3), .ref (ad b)] m (fun r m' => m' = m ∧ r = some (.int 0)) :=
  v_X1_total hb (g_X1_total_4 hb ⟨fun _ => ⟨rfl, rfl⟩, fun h1 => absurd (by rw [h]; decide) h1⟩)
theorem told0 {x : Int32} (h : m.1 3 3 = 0) : Ct ad μX11_playTold (d + 2) [.ref (ad 0), .int x] m (fun r m' => m' = m ∧ r = some (.int 0)) := by
  refine v_X11_playTold ⟨fun _ => ⟨rfl, rfl⟩, fun _ => ⟨fun _ => ⟨rfl, rfl⟩, fun _ => (meet0 h).to ?_⟩⟩
  rintro _ _ ⟨rfl, rfl⟩
  exact ⟨0, rfl, fun h => absurd rfl h, fun _ => ⟨rfl, rfl⟩⟩
def cpM (m : Wm) (a b : Nat) : Wm := uI (uC (uC (uC (uC m (b + 1) (a + 1) 0 0 32) (b + 2) (a + 2) 0 0 8) (b + 3) (a + 3) 0 0 8) (b + 4) (a + 4) 0 0 8) a 4 ((uC (uC (uC (uC m (b + 1) (a + 1) 0 0 32) (b + 2) (a + 2) 0 0 8) (b + 3) (a + 3) 0 0 8) (b + 4) (a + 4) 0 0 8).1 b 4)
theorem copyC {a b : Nat} (ha : St a) (hb : St b) : Ct ad μX8_copy (d + 1) [.ref (ad a), .ref (ad b)] m (fun r m' => r = none ∧ m' = cpM m a b) :=
  v_X8_copy ha hb ⟨by decide, by decide, by decide, by decide, by decide, by decide, by decide, by decide, by decide, by decide, by decide, by decide, by decide, by decide, by decide, by decide, by decide, by decide, by decide, by decide, rfl, rfl⟩
theorem cpM_out {a b c j : Nat} (h : c < a ∨ a + 4 < c) : (cpM m a b).1 c j = m.1 c j := by
  simp [cpM, uC, uI, show c ≠ a by omega, show c ≠ a + 1 by omega, show c ≠ a + 2 by omega, show c ≠ a + 3 by omega, show c ≠ a + 4 by omega]
theorem Sm.cp {m m' : Wm} {a b : Nat} (h : Sm m m') (ha : a + 4 < 187) : Sm m (cpM m' a b) := ((((h.c (by omega)).c (by omega)).c (by omega)).c (by omega)).i (by omega)
theorem c_judge {n t : Int32} (h : m.1 3 3 = 0) : Ct ad μX11_judge (d + 3) [.ref (ad 0), .int n, .int t] m (Ans m (juA n)) := by
  refine v_X11_judge ⟨fun h1 => ⟨by simp [juA, h1], Sm.rf⟩, fun h1 => ⟨fun h2 => (copyC St_26 St_21).to ?_, fun h2 => ⟨by simp [juA, h1, h2], Sm.rf⟩⟩⟩
  rintro _ m1 ⟨rfl, rfl⟩
  refine ⟨rfl, ?_⟩
  have hs : Sm m (cpM m 26 21) := Sm.rf.cp (by decide)
  have h3 : (cpM m 26 21).1 3 3 = 0 := by rw [cpM_out (by decide)]; exact h
  have fin : ∀ x3 : Int32, x3 = juA n → AW ad E0 μX11_judge (d + 3) (Ans m (juA n)) 67 [(0, .ref (ad 0)), (3, .int x3)] [] (cpM m 26 21) := by
    rintro _ rfl
    refine g_X11_judge_67 ((total0 St_26 h3).to ?_)
    rintro _ _ ⟨rfl, rfl⟩
    refine ⟨0, rfl, (total0 St_21 h3).to ?_⟩
    rintro _ _ ⟨rfl, rfl⟩
    exact ⟨0, rfl, v_X11_tell ⟨rfl, rfl, (hs.l (by decide)).i (by decide)⟩⟩
  refine g_X11_judge_28 ⟨fun h4 => fin _ (by simp [juA, h1, h2, h4]), fun h4 => ⟨fun h => absurd rfl h, fun _ => (told0 h3).to ?_⟩⟩
  rintro _ _ ⟨rfl, rfl⟩
  have e : (0 : Int32) = juA n := by simp [juA, h1, h2, h4]
  refine ⟨0, rfl, fun h => absurd rfl h, fun _ => g_X11_judge_28 ⟨fun _ => fin _ e, fun _ => ⟨fun _ => fin _ e, fun h => absurd h (by decide)⟩⟩⟩
theorem k_judge {n t : Int32} (h : m.1 187 1 = 0) : Ct ad μX12_judge (d + 3) [.ref (ad 187), .int n, .int t] m (Re (juA n)) := by
  refine v_X12_judge ((in_i (lo := 0) (hi := 3) rfl rfl).to ?_)
  rintro _ _ ⟨rfl, rfl⟩
  by_cases h1 : n < 0
  · rw [if_neg (fun q => (fa_of_lt h1).2.1 q.1)]
    exact ⟨0, rfl, fun h => absurd rfl h, fun _ => by simp [Re, juA, h1]⟩
  · by_cases h2 : n ≤ 3
    · rw [if_pos ⟨fa_of_nlt h1, h2⟩]
      refine ⟨1, rfl, fun _ => (layC (x := 0) (na := 57) rfl (by decide) (by decide) (by decide)).to ?_, fun h => absurd h (by decide)⟩
      rintro _ _ ⟨rfl, rfl⟩
      have h3 : (layM (uI m 187 17 0) 202 0 57).1 187 1 = 0 := by rw [layM_at (by decide)]; exact t17 h (by decide)
      refine ⟨rfl, (sumOfAll0 h3).to ?_⟩
      rintro _ _ ⟨rfl, rfl⟩
      have fin : ∀ x4 : Int32, x4 = juA n → AW ad E0 μX12_judge (d + 3) (Re (juA n)) 138 [(0, .ref (ad 187)), (3, .int 0), (4, .int x4)] [] (layM (uI m 187 17 0) 202 0 57) := by
        rintro _ rfl
        refine g_X12_judge_138 ((sumOfAll0 h3).to ?_)
        rintro _ _ ⟨rfl, rfl⟩
        refine ⟨0, rfl, (bringC (x := 0) (na := 57) rfl (by decide) (by decide) (by decide)).to ?_⟩
        rintro _ _ ⟨rfl, rfl⟩
        refine ⟨rfl, (tellM (n := 0) rfl (by decide)).to ?_⟩
        rintro _ _ ⟨rfl, rfl⟩
        exact ⟨rfl, rfl⟩
      refine ⟨0, rfl, g_X12_judge_40 ⟨fun h4 => fin _ (by simp [juA, h1, h2, h4]), fun h4 => ⟨fun h => absurd rfl h, fun _ => ?_⟩⟩⟩
      have e : (0 : Int32) = juA n := by simp [juA, h1, h2, h4]
      have nx : AW ad E0 μX12_judge (d + 3) (Re (juA n)) 40 [(0, .ref (ad 187)), (1, .int n), (2, .int t), (3, .int 0), (4, .int 0), (5, .int (0 + 1))] [] (layM (uI m 187 17 0) 202 0 57) :=
        g_X12_judge_40 ⟨fun _ => fin _ e, fun _ => ⟨fun _ => fin _ e, fun h => absurd h (by decide)⟩⟩
      refine ⟨fun _ => nx, fun _ => (two0 h3).to ?_⟩
      rintro _ _ ⟨rfl, rfl⟩
      exact ⟨0, rfl, fun _ => nx, fun h => absurd rfl h⟩
    · rw [if_neg (fun q => h2 q.2)]
      exact ⟨0, rfl, fun h => absurd rfl h, fun _ => by simp [Re, juA, h1, h2]⟩
/-! keep, again, sign of the model -/
theorem k_again {a : Int32} (h : ∀ j : Nat, j < 2 → m.1 215 j = 0) : Ct ad μX12_again (d + 1) [.ref (ad 187), .int a] m (Re 0) := by
  refine v_X12_again ((in_i (lo := 0) (hi := 1) rfl rfl).to ?_)
  rintro _ _ ⟨rfl, rfl⟩
  by_cases h1 : 0 ≤ a ∧ a ≤ 1
  · rw [if_pos h1]
    have hv : vp_in a 2 := vp_in_iff.mpr (by have a1 := (fa_le _ _).mp h1.1; have a2 := (fa_le _ _).mp h1.2; have e1 : (0 : Int32).toInt = 0 := rfl; have e2 : (1 : Int32).toInt = 1 := rfl; omega)
    obtain ⟨j, hj, rfl⟩ := vp_in_of hv (by decide)
    refine ⟨1, rfl, fun h => absurd h (by decide), fun _ => ⟨hv, fun _ => rfl, fun h2 => absurd ?_ h2⟩⟩
    rw [nI_clamp (by omega)]
    exact t17 (h j hj) (Or.inl (by decide))
  · rw [if_neg h1]
    exact ⟨0, rfl, fun _ => rfl, fun h => absurd rfl h⟩
theorem k_keep {a : Int32} : Ct ad μX12_keep (d + 1) [.ref (ad 187), .int a] m (Re (if a < 0 then 0 else if a < 2 then 1 else 0)) := by
  refine v_X12_keep ((in_i (lo := 0) (hi := 1) rfl rfl).to ?_)
  rintro _ _ ⟨rfl, rfl⟩
  have e0 : (0 : Int32).toInt = 0 := rfl
  have e1 : (1 : Int32).toInt = 1 := rfl
  have e2 : (2 : Int32).toInt = 2 := rfl
  by_cases h1 : 0 ≤ a ∧ a ≤ 1
  · rw [if_pos h1]
    have a1 := (fa_le _ _).mp h1.1
    have a2 := (fa_le _ _).mp h1.2
    have hv : vp_in a 2 := vp_in_iff.mpr (by omega)
    have c1 : ¬ a < 0 := fun q => by have := (fa_lt _ _).mp q; omega
    have c2 : a < 2 := (fa_lt _ _).mpr (by omega)
    obtain ⟨j, hj, rfl⟩ := vp_in_of hv (by decide)
    rw [if_neg c1, if_pos c2]
    refine ⟨1, rfl, fun _ => ⟨hv, hv, ?_⟩, fun h => absurd h (by decide)⟩
    rw [l_mul 71 71 rfl]
    refine (layC (na := 142) rfl (by decide) (by omega) (by decide)).to ?_
    rintro _ _ ⟨rfl, rfl⟩
    refine ⟨rfl, ?_⟩
    rw [add_l 57 57 rfl]
    have st2 : ∀ k, k ≤ 5 → ∀ M : Wm, AW ad E0 μX12_keep (d + 1) (Re 1) 92 [(0, .ref (ad 187)), (2, .int (nI (71 * j + 57 + 8))), (3, .int (nI (5 - k)))] [] M := by
      intro k
      induction k with
      | zero => intro _ M; exact g_X12_keep_92 ⟨fun _ => ⟨by rw [add_l 5 5 rfl]; exact nat_in (by omega) (by decide), rfl⟩, fun h => absurd (by decide) h⟩
      | succ k ih =>
        intro hk M
        refine g_X12_keep_92 ⟨fun h => absurd ((le_l 5 5 rfl (by omega) (by omega)).mp h) (by omega), fun _ => ⟨nat_in (by omega) (by decide), by rw [nI_add]; exact nat_in (by omega) (by decide), ?_⟩⟩
        rw [nI_1, show 5 - (k + 1) + 1 = 5 - k by omega]
        exact ih (by omega) _
    have st1 : ∀ k, k ≤ 8 → ∀ M : Wm, AW ad E0 μX12_keep (d + 1) (Re 1) 53 [(0, .ref (ad 187)), (2, .int (nI (71 * j + 57))), (3, .int (nI (8 - k)))] [] M := by
      intro k
      induction k with
      | zero => intro _ M; exact g_X12_keep_53 ⟨fun _ => by rw [add_l 8 8 rfl]; exact st2 5 (Nat.le_refl _) M, fun h => absurd (by decide) h⟩
      | succ k ih =>
        intro hk M
        refine g_X12_keep_53 ⟨fun h => absurd ((le_l 8 8 rfl (by omega) (by omega)).mp h) (by omega), fun _ => ⟨nat_in (by omega) (by decide), fun _ => ⟨by rw [nI_add]; exact nat_in (by omega) (by decide), ?_⟩, fun _ => ⟨by rw [nI_add]; exact nat_in (by omega) (by decide), ?_⟩⟩⟩
        all_goals
          rw [nI_1, show 8 - (k + 1) + 1 = 8 - k by omega]
          exact ih (by omega) _
    exact st1 8 (Nat.le_refl _) _
  · rw [if_neg h1]
    refine ⟨0, rfl, fun h => absurd rfl h, fun _ => ?_⟩
    by_cases c1 : a < 0
    · simp [Re, c1]
    · have c2 : ¬ a < 2 := fun q => h1 ⟨fa_of_nlt c1, (fa_le _ _).mpr (by have := (fa_lt _ _).mp q; omega)⟩
      simp [Re, c1, c2]
theorem k_sign {v : Int32} (h : m.1 187 14 = 0) : Ct ad μX12_sign d [.ref (ad 187), .int v] m (Re 4) := by
  have e : (uI m 187 17 0).1 187 14 = 0 := h
  refine v_X12_sign ⟨fun _ => ?_, fun h1 => absurd (by rw [e]; decide) h1⟩
  have st : ∀ j k, j + k = 4 → ∀ M : Wm, M.1 187 14 = nI k → AW ad E0 μX12_sign d (Re 4) 20 [(0, .ref (ad 187)), (1, .int v), (2, .int (nI j + -1))] [] M := by
    intro j
    induction j with
    | zero =>
      intro k hk M hM
      obtain rfl : k = 4 := by omega
      exact g_X12_sign_20 ⟨fun _ => by rw [hM]; rfl, fun h => absurd dec_0 h⟩
    | succ j ih =>
      intro k hk M hM
      rw [dec_n]
      refine g_X12_sign_20 ⟨fun h => absurd h (nI_pos (by omega)), fun _ => ⟨by rw [hM]; exact nat_in (by omega) (by decide), ih (k + 1) (by omega) _ ?_⟩⟩
      show M.1 187 14 + 1 = nI (k + 1)
      rw [hM, nI_1]
  exact st 4 0 rfl _ (e.trans rfl)
/-! of, row -/
theorem c_of {a b : Int32} (h : m.1 3 3 = 0) : CtX ad μX11_of (d + 6) [.ref (ad 0), .int a, .int b] m (fun _ _ => False) (fun m' => m' = m) :=
  v_X11_of ((has0 h).to (by rintro _ _ ⟨rfl, rfl⟩; exact ⟨0, rfl, fun h => absurd rfl h, fun _ => rfl⟩))
theorem c_row {a : Int32} (h : m.1 0 18 = 0) : CtX ad μX11_row (d + 6) [.ref (ad 0), .int a] m (fun _ _ => False) (fun m' => m' = m) :=
  v_X11_row ⟨fun _ => rfl, fun h1 => ⟨fun h2 => absurd (by rw [h] at h2; exact h2) h1, fun _ => rfl⟩⟩
theorem k_of {a b : Int32} (h : m.1 187 1 = 0) : Ct ad μX12_of (d + 2) [.ref (ad 187), .int a, .int b] m (fun r m' => r = some (.int 0) ∧ m'.1 187 17 = 1) :=
  v_X12_of ((side0 (t17 h (by decide))).to (by rintro _ _ ⟨rfl, rfl⟩; exact ⟨0, rfl, fun _ => v_X12_lost ⟨0, rfl, rfl, rfl⟩, fun h => absurd rfl h⟩))
theorem k_row {a : Int32} (h : m.1 187 16 = 0) : Ct ad μX12_row (d + 2) [.ref (ad 187), .int a] m (fun r m' => r = some (.long 0) ∧ m'.1 187 17 = 1) := by
  have e : (uI m 187 17 0).1 187 16 = 0 := h
  refine v_X12_row ?_
  rw [e]
  refine (in_i (lo := 0) (hi := -1) rfl rfl).to ?_
  rintro _ _ ⟨rfl, rfl⟩
  rw [if_neg (fun q => by have h1 := (fa_le _ _).mp q.1; have h2 := (fa_le _ _).mp q.2; have e1 : (0 : Int32).toInt = 0 := rfl; have e2 : (-1 : Int32).toInt = -1 := rfl; omega)]
  exact ⟨0, rfl, fun _ => v_X12_lost ⟨0, rfl, rfl, rfl⟩, fun h => absurd rfl h⟩
end P1C
