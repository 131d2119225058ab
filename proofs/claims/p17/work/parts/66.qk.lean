/-! THE RULE: the class takes it sign by sign; what its cells hold -/
def fAt : List Bool → Nat → Bool
  | [], _ => false
  | f :: _, 0 => f
  | _ :: r, k + 1 => fAt r k
def cAt : List Int32 → Nat → Int32
  | [], _ => 0
  | x :: _, 0 => x
  | _ :: r, k + 1 => cAt r k
/-- row a holds the list, its last first -/
def LCel (m : Wm) (a : Nat) (l : List Int32) : Prop := ∀ i, i < l.length → m.1 a i = cAt l (l.length - 1 - i)
/-- what emit, hold and release touch -/
def RK (b0 b k : Nat) : Prop := (b = b0 ∧ (k = 4 ∨ k = 5)) ∨ b = b0 + 1 ∨ b = b0 + 3
/-- of the rule b0 alone -/
def RB (b0 a k : Nat) : Prop := (a = b0 ∧ 4 ≤ k ∧ k ≤ 8) ∨ a = b0 + 1 ∨ a = b0 + 3 ∨ a = b0 + 4
def XC (b0 : Nat) (cd wt : List Int32) (m : Wm) : Prop := m.1 b0 4 = nI cd.length ∧ LCel m (b0 + 1) cd ∧ m.1 b0 5 = nI wt.length ∧ LCel m (b0 + 3) wt
def RX (b0 : Nat) : XS → Wm → Prop
  | ((w, dg, fs), cd, wt), m => m.1 b0 8 = (if w = true then 1 else 0) ∧ m.1 b0 7 = nI dg ∧ dg ≤ 3 ∧ (w = false → cd ≠ []) ∧ XC b0 cd wt m ∧ ∃ D, fs.length = D + 1 ∧ D ≤ 4 ∧ m.1 b0 6 = nI D ∧ ∀ i, i ≤ D → m.1 (b0 + 4) i = if fAt fs (D - i) = true then 1 else 0
def RXQ (m0 : Wm) (b0 : Nat) (c : Int32) (X : XS) (r : Option Value) (m' : Wm) : Prop := WT m' ∧ Fx (RB b0) m0 m' ∧ ((r = some (.int 1) ∧ ∃ X', xst c X = some X' ∧ RX b0 X' m') ∨ (r = some (.int 0) ∧ xst c X = none))
theorem relL_len {r : Nat} : ∀ (wt cd : List Int32), (relL r wt cd).1.length + (relL r wt cd).2.length = cd.length + wt.length := by
  intro wt
  induction wt with
  | nil => intro cd; rfl
  | cons x wt ih =>
    intro cd
    show (if rkN x < r then (cd, x :: wt) else relL r wt ((1000 + x) :: cd)).1.length + (if rkN x < r then (cd, x :: wt) else relL r wt ((1000 + x) :: cd)).2.length = _
    by_cases h : rkN x < r
    · rw [if_pos h]
    · rw [if_neg h, ih, List.length_cons, List.length_cons]; omega
theorem relL_ne {r : Nat} : ∀ (wt cd : List Int32), cd ≠ [] → (relL r wt cd).1 ≠ [] := by
  intro wt
  induction wt with
  | nil => intro cd h; exact h
  | cons x wt ih =>
    intro cd h
    show (if rkN x < r then (cd, x :: wt) else relL r wt ((1000 + x) :: cd)).1 ≠ []
    by_cases h2 : rkN x < r
    · rw [if_pos h2]; exact h
    · rw [if_neg h2]; exact ih _ (by simp)
theorem xcd_len {c : Int32} {w : Bool} {cd wt : List Int32} : (xcd c w cd wt).1.length + (xcd c w cd wt).2.length ≤ cd.length + wt.length + 1 := by
  have h1 := relL_len (r := 1) wt cd
  have h2 := relL_len (r := rkN c) wt cd
  have h3 : (digL (c - 48) cd).length = cd.length := by cases cd <;> rfl
  have h4 : (relL 1 wt cd).2.tail.length ≤ (relL 1 wt cd).2.length := by
    generalize (relL 1 wt cd).2 = l
    cases l with
    | nil => exact Nat.le_refl _
    | cons x l => show l.length ≤ (x :: l).length; rw [List.length_cons]; omega
  unfold xcd
  by_cases a1 : isDg c
  · rw [if_pos a1]
    by_cases a2 : w = true
    · rw [if_pos a2]; show ((c - 48) :: cd).length + wt.length ≤ _; rw [List.length_cons]; omega
    · rw [if_neg a2]; show (digL (c - 48) cd).length + wt.length ≤ _; omega
  · rw [if_neg a1]
    by_cases a2 : w = true
    · rw [if_pos a2]
      by_cases a3 : c = 45
      · rw [if_pos a3]; show cd.length + ((256 : Int32) :: wt).length ≤ _; rw [List.length_cons]; omega
      · rw [if_neg a3]
        by_cases a4 : c = 40
        · rw [if_pos a4]; show cd.length + ((40 : Int32) :: wt).length ≤ _; rw [List.length_cons]; omega
        · rw [if_neg a4]; show ((1000 + c) :: cd).length + wt.length ≤ _; rw [List.length_cons]; omega
    · rw [if_neg a2]
      by_cases a3 : c = 41
      · rw [if_pos a3]; show (relL 1 wt cd).1.length + (relL 1 wt cd).2.tail.length ≤ _; omega
      · rw [if_neg a3]; show (relL (rkN c) wt cd).1.length + (c :: (relL (rkN c) wt cd).2).length ≤ _; rw [List.length_cons]; omega
theorem xst_len {c : Int32} {X X' : XS} (h : xst c X = some X') : X'.2.1.length + X'.2.2.length ≤ X.2.1.length + X.2.2.length + 1 := by
  unfold xst at h
  cases e : rst c X.1 with
  | none => rw [e] at h; cases h
  | some S =>
    rw [e] at h
    have h' : (S, xcd c X.1.1 X.2.1 X.2.2) = X' := Option.some.inj h
    rw [← h']
    exact xcd_len
section RCC
variable {ad : Nat → Nat} {d b0 : Nat} {m m0 : Wm} {cd wt : List Int32}
theorem LCel.c {a : Nat} {x : Int32} {l : List Int32} (h : LCel m a l) : LCel (uI m a l.length x) a (x :: l) := fun i hi => by
  rw [List.length_cons] at hi ⊢
  by_cases e : i = l.length
  · rw [e, show l.length + 1 - 1 - l.length = 0 by omega]
    exact u_eq
  · rw [show l.length + 1 - 1 - i = (l.length - 1 - i) + 1 by omega]
    exact (u_ne (fun q => e q.2)).trans (h i (by omega))
theorem LCel.t {a : Nat} {x : Int32} {l : List Int32} (h : LCel m a (x :: l)) : LCel m a l := fun i hi => by
  have h1 := h i (by rw [List.length_cons]; omega)
  rw [List.length_cons, show l.length + 1 - 1 - i = (l.length - 1 - i) + 1 by omega] at h1
  exact h1
theorem LCel.h {a : Nat} {x : Int32} {l : List Int32} (h : LCel m a (x :: l)) : m.1 a l.length = x := by
  have h1 := h l.length (by rw [List.length_cons]; omega)
  rw [List.length_cons, show l.length + 1 - 1 - l.length = 0 by omega] at h1
  exact h1
theorem LCel.k {a : Nat} {l : List Int32} {m' : Wm} (h : LCel m a l) (e : ∀ k, m'.1 a k = m.1 a k) : LCel m' a l := fun i hi => (e i).trans (h i hi)
theorem XC.k {m' : Wm} (h : XC b0 cd wt m) (e : ∀ a k, RK b0 a k → m'.1 a k = m.1 a k) : XC b0 cd wt m' := by
  obtain ⟨h1, h2, h3, h4⟩ := h
  exact ⟨(e b0 4 (Or.inl ⟨rfl, Or.inl rfl⟩)).trans h1, h2.k (fun k => e _ k (Or.inr (Or.inl rfl))), (e b0 5 (Or.inl ⟨rfl, Or.inr rfl⟩)).trans h3, h4.k (fun k => e _ k (Or.inr (Or.inr rfl)))⟩
theorem cnt4 (hb : b0 = 5 ∨ b0 = 10) (w : WT m) : 0 ≤ (m.1 b0 4).toInt ∧ (m.1 b0 4).toInt ≤ 40 := by
  rcases hb with rfl | rfl
  · exact w.at (a := 5) (k := 4) rfl
  · exact w.at (a := 10) (k := 4) rfl
theorem cnt5 (hb : b0 = 5 ∨ b0 = 10) (w : WT m) : 0 ≤ (m.1 b0 5).toInt ∧ (m.1 b0 5).toInt ≤ 40 := by
  rcases hb with rfl | rfl
  · exact w.at (a := 5) (k := 5) rfl
  · exact w.at (a := 10) (k := 5) rfl
theorem wR1 (hb : b0 = 5 ∨ b0 = 10) (w : WT m) {k : Nat} {v : Int32} : WT (uI m (b0 + 1) k v) := by rcases hb with rfl | rfl; exact w.n rfl; exact w.n rfl
theorem wR3 (hb : b0 = 5 ∨ b0 = 10) (w : WT m) {k : Nat} {v : Int32} : WT (uI m (b0 + 3) k v) := by rcases hb with rfl | rfl; exact w.n rfl; exact w.n rfl
theorem wR_4 (hb : b0 = 5 ∨ b0 = 10) (w : WT m) {v : Int32} (h0 : 0 ≤ v.toInt) (h1 : v.toInt ≤ 40) : WT (uI m b0 4 v) := by rcases hb with rfl | rfl; exact w.t rfl h0 h1; exact w.t rfl h0 h1
theorem wR_5 (hb : b0 = 5 ∨ b0 = 10) (w : WT m) {v : Int32} (h0 : 0 ≤ v.toInt) (h1 : v.toInt ≤ 40) : WT (uI m b0 5 v) := by rcases hb with rfl | rfl; exact w.t rfl h0 h1; exact w.t rfl h0 h1
theorem e_emitK (hb : b0 = 5 ∨ b0 = 10) (w : WT m) (f : Fx (RK b0) m0 m) (C : XC b0 cd wt m) (hl : cd.length < 40) {x : Int32} : Ct ad μX5_emit d [.ref (ad b0), .int x] m (fun r m' => r = none ∧ WT m' ∧ Fx (RK b0) m0 m' ∧ XC b0 (x :: cd) wt m') := by
  obtain ⟨h1, h2, h3, h4⟩ := C
  have tl : (nI cd.length).toInt = cd.length := nI_toInt (by omega)

  refine v_X5_emit (Ru_of hb) ⟨fun c => ?_, fun c => ?_⟩
  · rw [h1] at c; have := y_lel (n := 40) rfl c; omega
  · have e : (uI m (b0 + 1) (m.1 b0 4).toNatClampNeg x).1 b0 4 = m.1 b0 4 := u_ne (by omega)
    rw [e, h1, nI_1, nI_clamp (by omega)]
    refine ⟨nat_in (by omega) (by decide), rfl, wR_4 hb (wR1 hb w) ?_ ?_, (f.i (Or.inr (Or.inl rfl))).i (Or.inl ⟨rfl, Or.inl rfl⟩), ?_, ?_, ?_, ?_⟩
    · rw [nI_toInt (by omega)]; omega
    · rw [nI_toInt (by omega)]; omega
    · rw [List.length_cons]; exact u_eq
    · exact (LCel.c (x := x) h2).k (fun k => u_ne (by omega))
    · exact (u_ne (by omega)).trans ((u_ne (by omega)).trans h3)
    · exact h4.k (fun k => (u_ne (by omega)).trans (u_ne (by omega)))
theorem e_holdK (hb : b0 = 5 ∨ b0 = 10) (w : WT m) (f : Fx (RK b0) m0 m) (C : XC b0 cd wt m) (hl : wt.length < 40) {x : Int32} : Ct ad μX5_hold d [.ref (ad b0), .int x] m (fun r m' => r = none ∧ WT m' ∧ Fx (RK b0) m0 m' ∧ XC b0 cd (x :: wt) m') := by
  obtain ⟨h1, h2, h3, h4⟩ := C
  have tl : (nI wt.length).toInt = wt.length := nI_toInt (by omega)
  refine v_X5_hold (Ru_of hb) ⟨fun c => ?_, fun c => ?_⟩
  · rw [h3] at c; have := y_lel (n := 40) rfl c; omega
  · have e : (uI m (b0 + 3) (m.1 b0 5).toNatClampNeg x).1 b0 5 = m.1 b0 5 := u_ne (by omega)
    rw [e, h3, nI_1, nI_clamp (by omega)]
    refine ⟨nat_in (by omega) (by decide), rfl, wR_5 hb (wR3 hb w) ?_ ?_, (f.i (Or.inr (Or.inr rfl))).i (Or.inl ⟨rfl, Or.inr rfl⟩), ?_, ?_, ?_, ?_⟩
    · rw [nI_toInt (by omega)]; omega
    · rw [nI_toInt (by omega)]; omega
    · exact (u_ne (by omega)).trans ((u_ne (by omega)).trans h1)
    · exact h2.k (fun k => (u_ne (by omega)).trans (u_ne (by omega)))
    · rw [List.length_cons]; exact u_eq
    · exact (LCel.c (x := x) h4).k (fun k => u_ne (by omega))
theorem e_rank {c : Int32} : Ct ad μX5_rank d [.int c] m (fun r m' => m' = m ∧ r = some (.int (nI (rkN c)))) := by
  refine v_X5_rank ⟨?_, ?_, ?_, ?_, ?_, ?_, ?_, ?_, fun h1 h2 h3 h4 h5 h6 h7 h8 => ?_⟩
  all_goals first
    | (rintro rfl; exact ⟨rfl, rfl⟩)
    | skip
  refine ⟨rfl, ?_⟩
  have e : rkN c = 0 := by
    unfold rkN
    rw [if_neg (fun q => q.elim h1 h4), if_neg (fun q => q.elim h2 h3), if_neg (fun q => q.elim h5 (fun q => q.elim h6 h7)), if_neg h8]
  rw [e]
  rfl
theorem rk_4 {c : Int32} : rkN c ≤ 4 := by
  unfold rkN
  repeat' split
  all_goals omega
theorem e_relK (hb : b0 = 5 ∨ b0 = 10) (w : WT m) (f : Fx (RK b0) m0 m) (C : XC b0 cd wt m) (hl : cd.length + wt.length ≤ 40) {r : Nat} (hr : r ≤ 4) : Ct ad μX5_release (d + 1) [.ref (ad b0), .int (nI r)] m (fun v m' => v = none ∧ WT m' ∧ Fx (RK b0) m0 m' ∧ XC b0 (relL r wt cd).1 (relL r wt cd).2 m') := by
  have L : ∀ (wt cd : List Int32) (m1 : Wm), cd.length + wt.length ≤ 40 → WT m1 → Fx (RK b0) m0 m1 → XC b0 cd wt m1 → AW ad E0 μX5_release (d + 1) (fun v m' => v = none ∧ WT m' ∧ Fx (RK b0) m0 m' ∧ XC b0 (relL r wt cd).1 (relL r wt cd).2 m') 7 [(0, .ref (ad b0)), (1, .int (nI r)), (2, .int (nI wt.length - 1))] [] m1 := by
    intro wt
    induction wt with
    | nil =>
      intro cd m1 hl w1 f1 C1
      exact g_X5_release_7 (Ru_of hb) ⟨fun _ => ⟨rfl, w1, f1, C1⟩, fun c => absurd (show nI ([] : List Int32).length - 1 < 0 by decide) c⟩
    | cons y wt ih =>
      intro cd m1 hl w1 f1 C1
      obtain ⟨h1, h2, h3, h4⟩ := C1
      rw [List.length_cons] at hl
      have ex : nI (y :: wt).length - 1 = nI wt.length := by rw [List.length_cons]; exact (nI_sb (a := wt.length + 1) (b := 1) (by omega) (by omega)).trans (congrArg nI (Nat.add_sub_cancel _ _))
      rw [ex]
      have tl : (nI wt.length).toInt = wt.length := nI_toInt (by omega)
      have hy := h4.h
      refine g_X5_release_7 (Ru_of hb) ⟨fun c => ?_, fun _ => ?_⟩
      · have := y_ltr (n := 0) rfl c; omega
      · rw [nI_clamp (by omega), hy]
        refine ⟨nat_in (by omega) (by decide), (e_rank).to ?_⟩
        rintro _ m' ⟨eq, rfl⟩
        obtain rfl := eq.symm
        have rk := rk_4 (c := y)
        have er : relL r (y :: wt) cd = if rkN y < r then (cd, y :: wt) else relL r wt ((1000 + y) :: cd) := rfl
        refine ⟨_, rfl, fun c => ?_, fun c => ?_⟩
        · have c' := (nI_leI (a := r) (b := rkN y) (by omega) (by omega)).mp c
          rw [er, if_neg (by omega), hy]
          refine ⟨nat_in (by omega) (by decide), (e_emitK hb w1 f1 ⟨h1, h2, h3, h4⟩ (by omega)).to ?_⟩
          rintro _ m3 ⟨rfl, w3, f3, k1, k2, k3, k4⟩
          refine ⟨rfl, ?_⟩
          have e1 : nI wt.length + (-1 : Int32) = nI wt.length - 1 := by rw [Int32.sub_eq_add_neg]
          rw [e1]
          exact ih _ _ (by rw [List.length_cons]; omega) (wR_5 hb w3 (by omega) (by omega)) (f3.i (Or.inl ⟨rfl, Or.inr rfl⟩)) ⟨(u_ne (by omega)).trans k1, k2.k (fun k => u_ne (by omega)), u_eq, (k4.t).k (fun k => u_ne (by omega))⟩
        · have c' : ¬ r ≤ rkN y := fun z => c ((nI_leI (a := r) (b := rkN y) (by omega) (by omega)).mpr z)
          rw [er, if_pos (by omega)]
          exact ⟨rfl, w1, f1, h1, h2, h3, h4⟩
  refine v_X5_release (Ru_of hb) ?_
  rw [C.2.2.1]
  exact L wt cd m hl w f C
theorem RK_B (a k : Nat) (h : RK b0 a k) : RB b0 a k := by unfold RK at h; unfold RB; omega
theorem RB_1 (hb : b0 = 5 ∨ b0 = 10) (a k : Nat) (h : RB b0 a k) : RS [1] a k := by
  rcases hb with rfl | rfl
  · rcases h with ⟨rfl, h1, h2⟩ | rfl | rfl | rfl <;> rfl
  · rcases h with ⟨rfl, h1, h2⟩ | rfl | rfl | rfl <;> rfl
end RCC
