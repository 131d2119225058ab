/-! THE READER OF THE MODEL: what stands at a place, what is taken, numbers, THE RULE by descent (exactly) -/
def PS (a sz tp e : Nat) (tx : Nat → Int32) (p : Nat) (w : Int32) (m : Wm) : Prop := m.2.2 187 18 = some a ∧ m.1 187 19 = nI sz ∧ m.1 187 20 = nI tp ∧ m.1 187 21 = nI p ∧ m.1 187 22 = w ∧ p ≤ e ∧ ∀ k, k < e → m.1 a k = tx k
/-- what is fixed while one text is read: e is the lesser of its size and the most that is read -/
def PA (a na sz tp e : Nat) : Prop := LAY[a]? = some (.inr (1, na)) ∧ sz ≤ 80 ∧ tp ≤ 80 ∧ e ≤ na ∧ na ≤ 80 ∧ a ≠ 187 ∧ e ≤ sz ∧ e ≤ tp ∧ (e = sz ∨ e = tp)
def hrF (tx : Nat → Int32) (e p : Nat) : Int32 := if p < e then tx p else -1
theorem PS.to {a sz tp e p q : Nat} {tx : Nat → Int32} {w : Int32} {m : Wm} (h : PS a sz tp e tx p w m) (ha : a ≠ 187) (hq : q ≤ e) : PS a sz tp e tx q w (uI m 187 21 (nI q)) := by
  obtain ⟨h1, h2, h3, h4, h5, h6, h7⟩ := h
  exact ⟨h1, h2, h3, rfl, h5, hq, fun k hk => (if_neg (fun e => ha e.1)).trans (h7 k hk)⟩
theorem PS.wr {a sz tp e p : Nat} {tx : Nat → Int32} {w w' : Int32} {m : Wm} (h : PS a sz tp e tx p w m) (ha : a ≠ 187) : PS a sz tp e tx p w' (uI m 187 22 w') := by
  obtain ⟨h1, h2, h3, h4, h5, h6, h7⟩ := h
  exact ⟨h1, h2, h3, h4, rfl, h6, fun k hk => (if_neg (fun e => ha e.1)).trans (h7 k hk)⟩
theorem m1_ne (k : Nat) (h : k < 2147483648) : (-1 : Int32) ≠ nI k := fun q => by
  have h2 := congrArg Int32.toInt q
  rw [nI_toInt h] at h2
  have h3 : (-1 : Int32).toInt = -1 := rfl
  omega
/-- another sign that can be asked for -/
def passF (tx : Nat → Int32) (e : Nat) (c : Int32) (s : Nat × Int32) : Bool := decide (s.2 = -1 ∧ hrF tx e s.1 = c)
def fltF (x : Int32) (s : Nat × Int32) : Nat × Int32 := if s.2 = -1 then (s.1, x) else s
def needF (tx : Nat → Int32) (e : Nat) (c : Int32) (s : Nat × Int32) : Nat × Int32 := if passF tx e c s = true then (s.1 + 1, s.2) else fltF (nI s.1) s
theorem pass_lt {tx : Nat → Int32} {e : Nat} {c : Int32} {s : Nat × Int32} (h : passF tx e c s = true) (hc : c ≠ -1) : s.1 < e := by
  have h1 := (of_decide_eq_true h).2
  unfold hrF at h1
  by_cases hp : s.1 < e
  · exact hp
  · rw [if_neg hp] at h1
    exact absurd h1.symm hc
section PAR
variable {ad : Nat → Nat} {d : Nat} {m : Wm} {a na sz tp e : Nat} {tx : Nat → Int32} {p : Nat} {w : Int32}
theorem here_ok (A : PA a na sz tp e) (h : PS a sz tp e tx p w m) : Ct ad μX12_here d [.ref (ad 187)] m (fun r m' => m' = m ∧ r = some (.int (hrF tx e p))) := by
  obtain ⟨h1, h2, h3, h4, h5, h6, h7⟩ := h
  obtain ⟨a1, a2, a3, a4, a5, a6, a7, a8, a9⟩ := A
  refine v_X12_here ?_
  rw [h2, h3, h4]
  have le1 := nI_leI (a := sz) (b := p) (by omega) (by omega)
  have le2 := nI_leI (a := tp) (b := p) (by omega) (by omega)
  refine ⟨fun c => ⟨rfl, ?_⟩, fun c => ⟨fun c' => ⟨rfl, ?_⟩, fun c' => ⟨a, na, h1, a1, nat_in ?_ (by omega), rfl, ?_⟩⟩⟩
  · have := le1.mp c
    rw [hrF, if_neg (by omega)]
  · have := le2.mp c'
    rw [hrF, if_neg (by omega)]
  · have e1 := (not_congr le1).mp c
    have e2 := (not_congr le2).mp c'
    omega
  · have e1 := (not_congr le1).mp c
    have e2 := (not_congr le2).mp c'
    rw [nI_clamp (by omega), hrF, if_pos (by omega), h7 p (by omega)]
theorem fine_ok (h : PS a sz tp e tx p w m) : Ct ad μX12_fine d [.ref (ad 187)] m (fun r m' => m' = m ∧ r = some (.int (if w = -1 then 1 else 0))) := by
  obtain ⟨h1, h2, h3, h4, h5, h6, h7⟩ := h
  refine v_X12_fine ?_
  rw [h5]
  exact ⟨fun c => ⟨rfl, by rw [if_neg c]⟩, fun c => ⟨rfl, by rw [if_pos c]⟩⟩
theorem fault_ok (A : PA a na sz tp e) (h : PS a sz tp e tx p w m) {x : Int32} : Ct ad μX12_fault (d + 1) [.ref (ad 187), .int x] m (fun r m' => r = none ∧ PS a sz tp e tx p (fltF x (p, w)).2 m' ∧ Fx (RS [22]) m m') := by
  refine v_X12_fault ((fine_ok h).to ?_)
  rintro _ _ ⟨rfl, rfl⟩
  by_cases hw : w = -1
  · refine ⟨1, by rw [if_pos hw], fun c => absurd c (by decide), fun _ => ⟨rfl, ?_, Fx.rf.i rfl⟩⟩
    rw [fltF, if_pos hw]
    exact h.wr A.2.2.2.2.2.1
  · refine ⟨0, by rw [if_neg hw], fun _ => ⟨rfl, ?_, Fx.rf⟩, fun c => absurd rfl c⟩
    rw [fltF, if_neg hw]
    exact h
theorem at_up (A : PA a na sz tp e) (h : PS a sz tp e tx p w m) (hp : p < e) : PS a sz tp e tx (p + 1) w (uI m 187 21 ((m.1 187 21) + 1)) := by
  have h4 := h.2.2.2.1
  have h1 := h.to A.2.2.2.2.2.1 (q := p + 1) (by omega)
  rw [h4, nI_1]
  exact h1
theorem passes_ok (A : PA a na sz tp e) (h : PS a sz tp e tx p w m) {c : Int32} (hc : c ≠ -1) : Ct ad μX12_passes (d + 1) [.ref (ad 187), .int c] m (fun r m' => r = some (.int (if passF tx e c (p, w) = true then 1 else 0)) ∧ PS a sz tp e tx (if passF tx e c (p, w) = true then p + 1 else p) w m' ∧ Fx (RS [22]) m m') := by
  refine v_X12_passes ((fine_ok h).to ?_)
  rintro _ _ ⟨rfl, rfl⟩
  by_cases hw : w = -1
  · refine ⟨1, by rw [if_pos hw], fun c => absurd c (by decide), fun _ => (here_ok A h).to ?_⟩
    rintro _ _ ⟨rfl, rfl⟩
    refine ⟨_, rfl, fun hh => ?_, fun hh => ?_⟩
    · have e1 : passF tx e c (p, w) = true := decide_eq_true ⟨hw, hh⟩
      rw [if_pos e1, if_pos e1]
      exact ⟨rfl, at_up A h (pass_lt e1 hc), Fx.rf.i rfl⟩
    · have e1 : ¬ passF tx e c (p, w) = true := fun q => hh (of_decide_eq_true q).2
      rw [if_neg e1, if_neg e1]
      exact ⟨rfl, h, Fx.rf⟩
  · have e1 : ¬ passF tx e c (p, w) = true := fun q => hw (of_decide_eq_true q).1
    rw [if_neg e1, if_neg e1]
    exact ⟨0, by rw [if_neg hw], fun _ => ⟨rfl, h, Fx.rf⟩, fun c => absurd rfl c⟩
theorem need_ok (A : PA a na sz tp e) (h : PS a sz tp e tx p w m) {c : Int32} (hc : c ≠ -1) : Ct ad μX12_need (d + 2) [.ref (ad 187), .int c] m (fun r m' => r = none ∧ PS a sz tp e tx (needF tx e c (p, w)).1 (needF tx e c (p, w)).2 m' ∧ Fx (RS [22]) m m') := by
  refine v_X12_need ((passes_ok A h hc).to ?_)
  rintro _ m1 ⟨rfl, h1, f1⟩
  by_cases e1 : passF tx e c (p, w) = true
  · rw [if_pos e1] at h1
    refine ⟨1, by rw [if_pos e1], fun _ => ⟨rfl, ?_, f1⟩, fun c => absurd c (by decide)⟩
    rw [needF, if_pos e1]
    exact h1
  · rw [if_neg e1] at h1
    refine ⟨0, by rw [if_neg e1], fun c => absurd rfl c, fun _ => ?_⟩
    rw [h1.2.2.2.1]
    refine (fault_ok A h1).to ?_
    rintro _ m2 ⟨rfl, h2, f2⟩
    refine ⟨rfl, rfl, ?_, f1.tr f2 (RS_sub rfl)⟩
    rw [needF, if_neg e1]
    have e2 : (fltF (nI p) (p, w)).1 = p := by unfold fltF; by_cases hw : w = -1 <;> simp [hw]
    rw [e2]
    exact h2
/-- a number of at most n digits -/
def numF (tx : Nat → Int32) (e : Nat) : Nat → Int32 → Nat → Int32 × Nat
  | 0, v, p => (v, p)
  | n + 1, v, p => if 48 ≤ hrF tx e p ∧ hrF tx e p ≤ 57 then numF tx e n (10 * v + hrF tx e p - 48) (p + 1) else (v, p)
theorem dig_lt {p : Nat} (h : (48 : Int32) ≤ hrF tx e p) : p < e := by
  unfold hrF at h
  by_cases hp : p < e
  · exact hp
  · rw [if_neg hp] at h
    exact absurd h (by decide)
theorem num_le {n : Nat} : ∀ {v : Int32} {p : Nat}, p ≤ e → p ≤ (numF tx e n v p).2 ∧ (numF tx e n v p).2 ≤ e := by
  induction n with
  | zero => intro v p hp; exact ⟨Nat.le_refl _, hp⟩
  | succ n ih =>
    intro v p hp
    unfold numF
    by_cases hc : 48 ≤ hrF tx e p ∧ hrF tx e p ≤ 57
    · rw [if_pos hc]
      have h1 := dig_lt hc.1
      have h2 := ih (v := 10 * v + hrF tx e p - 48) (p := p + 1) (by omega)
      exact ⟨by omega, h2.2⟩
    · rw [if_neg hc]
      exact ⟨Nat.le_refl _, hp⟩
theorem in_c (x : Int32) (lo hi : Int32) {y2 y4 : Int64} (h2 : y2 = lo.toInt64) (h4 : y4 = hi.toInt64) : Ct ad μX12_in d [.long x.toInt64, .long y2, .long y4] m (fun r m' => m' = m ∧ r = some (.int (if lo ≤ x ∧ x ≤ hi then 1 else 0))) := in_i h2 h4
theorem number_ok (A : PA a na sz tp e) {n : Nat} (hn : n < 100) : ∀ (k : Nat) (p : Nat) (v : Int32) (m : Wm), PS a sz tp e tx p w m → k ≤ n → AW ad E0 μX12_number (d + 1) (fun r m' => r = some (.int (numF tx e k v p).1) ∧ PS a sz tp e tx (numF tx e k v p).2 w m' ∧ Fx (RS [22]) m m') 4 [(0, .ref (ad 187)), (1, .int (nI n)), (2, .int v), (3, .int (nI (n - k)))] [] m := by
  intro k
  induction k with
  | zero =>
    intro p v m h hk
    refine g_X12_number_4 ⟨fun _ => ⟨rfl, h, Fx.rf⟩, fun c => absurd (nI_le (a := n) (b := n - 0) (by omega) (by omega)) c⟩
  | succ k ih =>
    intro p v m h hk
    refine g_X12_number_4 ⟨fun c => absurd ((nI_leI (by omega) (by omega)).mp c) (by omega), fun _ => (here_ok A h).to ?_⟩
    rintro _ _ ⟨rfl, rfl⟩
    refine ⟨_, rfl, (in_c (hrF tx e p) 48 57 rfl rfl).to ?_⟩
    rintro _ _ ⟨rfl, rfl⟩
    by_cases hc : 48 ≤ hrF tx e p ∧ hrF tx e p ≤ 57
    · refine ⟨1, by rw [if_pos hc], fun c => absurd c (by decide), fun _ => (here_ok A h).to ?_⟩
      rintro _ _ ⟨rfl, rfl⟩
      refine ⟨_, rfl, ?_⟩
      have h1 := at_up A h (dig_lt hc.1)
      have h2 := ih (p + 1) (10 * v + hrF tx e p - 48) _ h1 (by omega)
      rw [nI_1, show n - (k + 1) + 1 = n - k by omega]
      refine AW.mono h2 ?_
      rintro r m' ⟨e1, e2, e3⟩
      rw [numF, if_pos hc]
      exact ⟨e1, e2, (Fx.i (S := RS [22]) Fx.rf rfl).tr e3 (RS_sub rfl)⟩
    · refine ⟨0, by rw [if_neg hc], fun _ => ?_, fun c => absurd rfl c⟩
      rw [numF, if_neg hc]
      exact ⟨rfl, h, Fx.rf⟩
theorem num3_ok (A : PA a na sz tp e) (h : PS a sz tp e tx p w m) : Ct ad μX12_number (d + 1) [.ref (ad 187), .int 3] m (fun r m' => r = some (.int (numF tx e 3 0 p).1) ∧ PS a sz tp e tx (numF tx e 3 0 p).2 w m' ∧ Fx (RS [22]) m m') :=
  v_X12_number (number_ok A (n := 3) (by decide) 3 p 0 m h (Nat.le_refl _))
/-- a digit from lo to hi -/
def digF (tx : Nat → Int32) (e : Nat) (lo hi : Int32) (s : Nat × Int32) : Int32 × (Nat × Int32) :=
  if s.2 = -1 then (if 48 + lo ≤ hrF tx e s.1 ∧ hrF tx e s.1 ≤ 48 + hi then (hrF tx e s.1 - 48, (s.1 + 1, s.2)) else (0, fltF (nI s.1) s)) else (0, s)
theorem digit_ok (A : PA a na sz tp e) (h : PS a sz tp e tx p w m) {lo hi : Int32} (hl : ¬ 48 + lo ≤ -1) : Ct ad μX12_digit (d + 2) [.ref (ad 187), .int lo, .int hi] m (fun r m' => r = some (.int (digF tx e lo hi (p, w)).1) ∧ PS a sz tp e tx (digF tx e lo hi (p, w)).2.1 (digF tx e lo hi (p, w)).2.2 m' ∧ Fx (RS [22]) m m') := by
  refine v_X12_digit ((fine_ok h).to ?_)
  rintro _ m' ⟨eq, rfl⟩
  obtain rfl := eq.symm
  by_cases hw : w = -1
  · refine ⟨1, by rw [if_pos hw], fun _ => (here_ok A h).to ?_, fun c => absurd c (by decide)⟩
    rintro _ m' ⟨eq, rfl⟩
    obtain rfl := eq.symm
    refine ⟨_, rfl, (in_c (hrF tx e p) (48 + lo) (48 + hi) rfl rfl).to ?_⟩
    rintro _ m' ⟨eq, rfl⟩
    obtain rfl := eq.symm
    by_cases hc : 48 + lo ≤ hrF tx e p ∧ hrF tx e p ≤ 48 + hi
    · have hp : p < e := by
        have h1 := hc.1
        unfold hrF at h1
        by_cases hp : p < e
        · exact hp
        · rw [if_neg hp] at h1
          exact absurd h1 hl
      have h1 := at_up A h hp
      have h4 := h.2.2.2.1
      have e1 : digF tx e lo hi (p, w) = (hrF tx e p - 48, (p + 1, w)) := by rw [digF, if_pos hw, if_pos hc]
      rw [e1]
      have e2 : nI p + 1 - 1 = nI p := Int32.add_sub_cancel _ _
      have hx : ((uI m 187 21 ((m.1 187 21) + 1)).1 187 21) - 1 = nI p := by
        show (m.1 187 21 + 1) - 1 = nI p
        rw [h4, e2]
      refine ⟨1, by rw [if_pos hc], fun _ => ⟨a, na, h1.1, A.1, ?_, ?_, h1, Fx.rf.i rfl⟩, fun c => absurd c (by decide)⟩
      · rw [hx]
        exact nat_in (by have := A.2.2.2.1; omega) (by have := A.2.2.2.2.1; omega)
      · rw [hx, nI_clamp (by have := A.2.2.2.1; have := A.2.2.2.2.1; omega), h1.2.2.2.2.2.2 p hp, hrF, if_pos hp]
    · refine ⟨0, by rw [if_neg hc], fun c => absurd rfl c, fun _ => ?_⟩
      rw [h.2.2.2.1]
      refine (fault_ok A h).to ?_
      rintro _ m2 ⟨rfl, h2, f2⟩
      have e1 : digF tx e lo hi (p, w) = (0, fltF (nI p) (p, w)) := by rw [digF, if_pos hw, if_neg hc]
      rw [e1]
      have e2 : (fltF (nI p) (p, w)).1 = p := by unfold fltF; by_cases hw : w = -1 <;> simp [hw]
      refine ⟨rfl, rfl, ?_, f2⟩
      show PS a sz tp e tx (fltF (nI p) (p, w)).1 (fltF (nI p) (p, w)).2 m2
      rw [e2]
      exact h2
  · refine ⟨0, by rw [if_neg hw], fun c => absurd rfl c, fun _ => ?_⟩
    rw [digF, if_neg hw]
    exact ⟨rfl, h, Fx.rf⟩
end PAR
