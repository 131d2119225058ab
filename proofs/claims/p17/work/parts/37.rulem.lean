/-! THE RULE OF THE MODEL BY DESCENT, EXACTLY -/
def smF (f : Nat → Int32) (i : Nat) : Nat → Int32
  | 0 => 0
  | n + 1 => smF f i n + f (i + n)
def mxF (f : Nat → Int32) (i : Nat) : Nat → Int32
  | 0 => 0
  | n + 1 => if mxF f i n < f (i + n) then f (i + n) else mxF f i n
def mnF (f : Nat → Int32) (i : Nat) : Nat → Int32
  | 0 => 7
  | n + 1 => if f (i + n) < mnF f i n then f (i + n) else mnF f i n
/-- what a letter stands for: skills f, points g, raised h, arts ar, side s -/
def ltF (f g h : Nat → Int32) (ar s : Nat) (c : Int32) : Int32 :=
  if c = 105 then nI s else if c = 108 then mnF f (4 * s) ar else if c = 109 then mxF f (4 * s) ar else if c = 112 then g s else if c = 114 then h s else if c = 115 then smF f (4 * s) ar
  else if 0 ≤ c - 97 ∧ c - 97 ≤ nI ar - 1 then f (4 * s + (c - 97).toNatClampNeg) else 0
abbrev isLt (c : Int32) : Prop := (97 ≤ c ∧ c ≤ 100) ∨ c = 115 ∨ c = 109 ∨ c = 108 ∨ c = 105 ∨ c = 112 ∨ c = 114
section LET
variable {ad : Nat → Nat} {d : Nat} {m : Wm} {s ar : Nat}
theorem sumOf_ok (ha : m.1 187 0 = nI ar) (har : ar ≤ 4) (hs : s < 8) : Ct ad μX12_sumOf d [.ref (ad 187), .int (nI s)] m (fun r m' => m' = m ∧ r = some (.int (smF (m.1 188) (4 * s) ar))) := by
  refine v_X12_sumOf ?_
  refine down (N := ar) (P := fun k => AW ad E0 μX12_sumOf d (fun r m' => m' = m ∧ r = some (.int (smF (m.1 188) (4 * s) ar))) 4 [(0, .ref (ad 187)), (1, .int (nI s)), (2, .int (smF (m.1 188) (4 * s) k)), (3, .int (nI k))] [] m) ?_ ?_ (Nat.zero_le _)
  · exact g_X12_sumOf_4 ⟨fun _ => ⟨rfl, rfl⟩, fun h => absurd (by rw [ha]; exact nI_le (Nat.le_refl _) (by omega)) h⟩
  · intro k hk ih
    refine g_X12_sumOf_4 ⟨fun h => absurd ((nI_leI (a := ar) (b := k) (by omega) (by omega)).mp (by rw [ha] at h; exact h)) (by omega), fun _ => ?_⟩
    rw [l_mul 4 4 rfl, nI_add, nI_1, nI_clamp (by omega)]
    exact ⟨nat_in (by omega) (by decide), ih⟩
theorem isArt_c {x : Int32} (ha : m.1 187 0 = nI ar) : Ct ad μX12_isArt (d + 1) [.ref (ad 187), .int x] m (fun r m' => m' = m ∧ r = some (.int (if 0 ≤ x ∧ x ≤ nI ar - 1 then 1 else 0))) := by
  have h := isArt_ok (ad := ad) (d := d) (m := m) (x := x)
  rw [ha] at h
  exact h
theorem letter_ok {c : Int32} (ha : m.1 187 0 = nI ar) (har : ar ≤ 4) (hs : s < 8) (h28 : m.1 187 28 = nI s) : Ct ad μX12_letter (d + 2) [.ref (ad 187), .int c] m (fun r m' => m' = m ∧ r = some (.int (ltF (m.1 188) (m.1 190) (m.1 191) ar s c))) := by
  refine v_X12_letter ?_
  rw [h28]
  refine down (N := ar) (P := fun k => AW ad E0 μX12_letter (d + 2) (fun r m' => m' = m ∧ r = some (.int (ltF (m.1 188) (m.1 190) (m.1 191) ar s c))) 14 [(0, .ref (ad 187)), (1, .int c), (2, .int (nI s)), (3, .int (mxF (m.1 188) (4 * s) k)), (4, .int (mnF (m.1 188) (4 * s) k)), (5, .int (nI k))] [] m) ?_ ?_ (Nat.zero_le _)
  · refine g_X12_letter_14 ⟨fun _ => ⟨?_, ?_, ?_, ?_, ?_, ?_, ?_⟩, fun h => absurd (by rw [ha]; exact nI_le (Nat.le_refl _) (by omega)) h⟩
    · rintro rfl
      exact ⟨rfl, rfl⟩
    · rintro rfl
      exact ⟨rfl, rfl⟩
    · rintro rfl
      exact ⟨rfl, rfl⟩
    · rintro rfl
      refine ⟨nat_in hs (by decide), rfl, ?_⟩
      rw [nI_clamp (by omega)]
      rfl
    · rintro rfl
      refine ⟨nat_in hs (by decide), rfl, ?_⟩
      rw [nI_clamp (by omega)]
      rfl
    · rintro rfl
      refine (sumOf_ok ha har hs).to ?_
      rintro _ m' ⟨eq, rfl⟩
      obtain rfl := eq.symm
      exact ⟨_, rfl, rfl, rfl⟩
    · intro h1 h2 h3 h4 h5 h6
      have e0 : ltF (m.1 188) (m.1 190) (m.1 191) ar s c = if 0 ≤ c - 97 ∧ c - 97 ≤ nI ar - 1 then m.1 188 (4 * s + (c - 97).toNatClampNeg) else 0 := by
        unfold ltF
        rw [if_neg h1, if_neg h2, if_neg h3, if_neg h4, if_neg h5, if_neg h6]
      rw [e0]
      refine (isArt_c ha).to ?_
      rintro _ m' ⟨eq, rfl⟩
      obtain rfl := eq.symm
      by_cases hc : 0 ≤ c - 97 ∧ c - 97 ≤ nI ar - 1
      · refine ⟨1, by rw [if_pos hc], fun q => absurd q (by decide), fun _ => ?_⟩
        have q1 := z_le hc.1
        have q2 := z_le hc.2
        have z0 : (0 : Int32).toInt = 0 := rfl
        have z1 : (1 : Int32).toInt = 1 := rfl
        have q3 : (nI ar).toInt = ar := nI_toInt (by omega)
        have q4 := ti_sub (x := nI ar) (y := 1) (by omega)
        obtain ⟨j, hj, ej⟩ := zn_of (x := c - 97) (by omega)
        have q5 : (c - 97).toInt = j := by rw [ej, nI_toInt hj]
        have e1 : 4 * nI s + c - 97 = nI (4 * s + j) := by
          rw [Int32.sub_eq_add_neg, Int32.add_assoc, ← Int32.sub_eq_add_neg, ej, l_mul 4 4 rfl, nI_add]
        rw [if_pos hc, e1, ej, nI_clamp (by omega), nI_clamp hj]
        exact ⟨nat_in (by omega) (by decide), rfl, rfl⟩
      · refine ⟨0, by rw [if_neg hc], fun _ => ⟨rfl, by rw [if_neg hc]⟩, fun q => absurd rfl q⟩
  · intro k hk ih
    refine g_X12_letter_14 ⟨fun h => absurd ((nI_leI (a := ar) (b := k) (by omega) (by omega)).mp (by rw [ha] at h; exact h)) (by omega), fun _ => ?_⟩
    rw [l_mul 4 4 rfl, nI_add, nI_1, nI_clamp (by omega)]
    exact ⟨nat_in (by omega) (by decide), nat_in (by omega) (by decide), ih⟩
end LET
abbrev Sp : Type := Nat × Int32
def loopF (tx : Nat → Int32) (e : Nat) (c1 c2 : Int32) (op : Bool → Int32 → Int32 → Int32) (g : Sp → Int32 × Sp) : Nat → Int32 → Sp → Int32 × Sp
  | 0, acc, s => (acc, s)
  | k + 1, acc, s => if s.2 = -1 ∧ (hrF tx e s.1 = c1 ∨ hrF tx e s.1 = c2) then loopF tx e c1 c2 op g k (op (decide (hrF tx e s.1 = c1)) acc (g (s.1 + 1, s.2)).1) (g (s.1 + 1, s.2)).2 else (acc, s)
def opA (b : Bool) (x y : Int32) : Int32 := if b = true then x + y else x - y
def opM (b : Bool) (x y : Int32) : Int32 := if b = true then x * y else if y = 0 then 0 else x / y
def thgF (tx : Nat → Int32) (e : Nat) (lt : Int32 → Int32) (gt gh : Sp → Int32 × Sp) (dp : Nat) (s : Sp) : Int32 × Sp :=
  if passF tx e 45 s = true then (-(gt (s.1 + 1, s.2)).1, (gt (s.1 + 1, s.2)).2)
  else if ¬ s.2 = -1 then (0, s)
  else if hrF tx e s.1 = 40 ∧ dp < 4 then ((gh (s.1 + 1, s.2)).1, needF tx e 41 (gh (s.1 + 1, s.2)).2)
  else if 48 ≤ hrF tx e s.1 ∧ hrF tx e s.1 ≤ 57 then ((numF tx e 3 0 s.1).1, ((numF tx e 3 0 s.1).2, s.2))
  else if isLt (hrF tx e s.1) then (lt (hrF tx e s.1), (s.1 + 1, s.2))
  else (0, fltF (nI s.1) s)
def cmpF (tx : Nat → Int32) (e : Nat) (gs : Sp → Int32 × Sp) (a : Int32 × Sp) : Int32 × Sp :=
  if passF tx e 60 a.2 = true then ((if a.1 < (gs (a.2.1 + 1, a.2.2)).1 then 1 else 0), (gs (a.2.1 + 1, a.2.2)).2)
  else if passF tx e 62 a.2 = true then ((if (gs (a.2.1 + 1, a.2.2)).1 < a.1 then 1 else 0), (gs (a.2.1 + 1, a.2.2)).2)
  else if passF tx e 61 a.2 = true then ((if a.1 = (gs (a.2.1 + 1, a.2.2)).1 then 1 else 0), (gs (a.2.1 + 1, a.2.2)).2)
  else a
/-- kind 0: a thing, 1: a product, 2: a sum, 3: what is compared; n: how deep the walk may still go -/
def prF (tx : Nat → Int32) (e : Nat) (lt : Int32 → Int32) : Nat → Nat → Nat → Sp → Int32 × Sp
  | 0, _, _, s => (0, s)
  | n + 1, 0, dp, s => thgF tx e lt (prF tx e lt n 0 dp) (prF tx e lt n 3 (dp + 1)) dp s
  | n + 1, 1, dp, s => loopF tx e 42 47 opM (prF tx e lt n 0 dp) 81 (prF tx e lt n 0 dp s).1 (prF tx e lt n 0 dp s).2
  | n + 1, 2, dp, s => loopF tx e 43 45 opA (prF tx e lt n 1 dp) 81 (prF tx e lt n 1 dp s).1 (prF tx e lt n 1 dp s).2
  | n + 1, _ + 3, dp, s => cmpF tx e (prF tx e lt n 2 dp) (prF tx e lt n 2 dp s)
def EN (ad : Nat → Nat) (g : Int32 → Int32) (m : Wm) : Prop := (m.1 187 28 = -1 ∧ ∀ c, g c = 0) ∨ (m.1 187 28 ≠ -1 ∧ ∀ m1, Fx (RS [22]) m m1 → ∀ c d, Ct ad μX12_letter (d + 2) [.ref (ad 187), .int c] m1 (fun r m' => m' = m1 ∧ r = some (.int (g c))))
theorem EN.fx {ad : Nat → Nat} {g : Int32 → Int32} {m m' : Wm} (h : EN ad g m) (f : Fx (RS [22]) m m') : EN ad g m' := by
  have e : m'.1 187 28 = m.1 187 28 := f.at (by decide)
  rcases h with h | ⟨h1, h2⟩
  · exact Or.inl ⟨e.trans h.1, h.2⟩
  · exact Or.inr ⟨fun q => h1 (e.symm.trans q), fun m1 f1 => h2 m1 (f.tr f1 (RS_sub rfl))⟩
section DES
variable {ad : Nat → Nat} {d : Nat} {a na sz tp e : Nat} {tx : Nat → Int32} {g : Int32 → Int32}
abbrev PO (a sz tp e : Nat) (tx : Nat → Int32) (p : Nat) (m : Wm) (X : Int32 × Sp) : Option Value → Wm → Prop := fun r m' => r = some (.int X.1) ∧ PS a sz tp e tx X.2.1 X.2.2 m' ∧ p ≤ X.2.1 ∧ Fx (RS [22]) m m'
theorem flt_1 {x : Int32} {s : Sp} : (fltF x s).1 = s.1 := by unfold fltF; by_cases hw : s.2 = -1 <;> simp [hw]
theorem need_le {c : Int32} {s : Sp} : s.1 ≤ (needF tx e c s).1 := by
  unfold needF
  by_cases h : passF tx e c s = true
  · rw [if_pos h]; exact Nat.le_succ _
  · rw [if_neg h, flt_1]; exact Nat.le_refl _
/-- behind a letter -/
theorem a147 {p q : Nat} {w c : Int32} {m m0 : Wm} (A : PA a na sz tp e) (h : PS a sz tp e tx p w m) (E : EN ad g m) (hp : p < e) (hq : q ≤ p) (f : Fx (RS [22]) m0 m) : AW ad E0 μX12_thing (d + 3) (PO a sz tp e tx q m0 (g c, (p + 1, w))) 147 [(0, .ref (ad 187)), (2, .int c)] [] m := by
  have h1 := at_up A h hp
  have f1 : Fx (RS [22]) m (uI m 187 21 ((m.1 187 21) + 1)) := Fx.rf.i rfl
  have f2 := f.tr f1 (RS_sub rfl)
  refine g_X12_thing_147 ⟨fun h28 => ?_, fun h28 => ?_⟩
  · rcases E with E | ⟨-, E⟩
    · exact absurd E.1 h28
    · refine (E _ f1 c d).to ?_
      rintro _ m' ⟨eq, rfl⟩
      obtain rfl := eq.symm
      exact ⟨_, rfl, rfl, h1, by show q ≤ p + 1; omega, f2⟩
  · rcases E with E | ⟨E, -⟩
    · refine ⟨?_, h1, by show q ≤ p + 1; omega, f2⟩
      show _ = some (Value.int (g c))
      rw [E.2 c]
    · exact absurd h28 E
theorem a67 {p q : Nat} {w : Int32} {m m0 : Wm} {X : Int32 × Sp} (A : PA a na sz tp e) (h : PS a sz tp e tx p w m) (E : EN ad g m) (hq : q ≤ p) (f : Fx (RS [22]) m0 m)
    (hX : X = if 48 ≤ hrF tx e p ∧ hrF tx e p ≤ 57 then ((numF tx e 3 0 p).1, ((numF tx e 3 0 p).2, w)) else if isLt (hrF tx e p) then (g (hrF tx e p), (p + 1, w)) else (0, fltF (nI p) (p, w))) :
    AW ad E0 μX12_thing (d + 3) (PO a sz tp e tx q m0 X) 67 [(0, .ref (ad 187)), (2, .int (hrF tx e p))] [] m := by
  have hpe : p ≤ e := h.2.2.2.2.2.1
  refine g_X12_thing_67 ((in_c (hrF tx e p) 48 57 rfl rfl).to ?_)
  rintro _ m' ⟨eq, rfl⟩
  obtain rfl := eq.symm
  by_cases hd : 48 ≤ hrF tx e p ∧ hrF tx e p ≤ 57
  · rw [if_pos hd] at hX
    refine ⟨1, by rw [if_pos hd], fun c => absurd c (by decide), fun _ => (num3_ok A h).to ?_⟩
    rintro _ m1 ⟨rfl, h1, f1⟩
    subst hX
    exact ⟨_, rfl, rfl, h1, by have := (num_le (tx := tx) (n := 3) (v := 0) hpe).1; show q ≤ (numF tx e 3 0 p).2; omega, f.tr f1 (RS_sub rfl)⟩
  · rw [if_neg hd] at hX
    refine ⟨0, by rw [if_neg hd], fun _ => (in_c (hrF tx e p) 97 100 rfl rfl).to ?_, fun c => absurd rfl c⟩
    rintro _ m' ⟨eq, rfl⟩
    obtain rfl := eq.symm
    have lt_of : isLt (hrF tx e p) → p < e := fun hl => by
      unfold hrF at hl
      by_cases hp : p < e
      · exact hp
      · rw [if_neg hp] at hl
        exact absurd hl (by decide)
    have yes : isLt (hrF tx e p) → AW ad E0 μX12_thing (d + 3) (PO a sz tp e tx q m0 X) 147 [(0, .ref (ad 187)), (2, .int (hrF tx e p))] [] m := fun hl => by
      rw [if_pos hl] at hX
      subst hX
      exact a147 A h E (lt_of hl) hq f
    by_cases h1 : 97 ≤ hrF tx e p ∧ hrF tx e p ≤ 100
    · exact ⟨1, by rw [if_pos h1], fun _ => yes (Or.inl h1), fun c => absurd c (by decide)⟩
    · refine ⟨0, by rw [if_neg h1], fun c => absurd rfl c, fun _ => ⟨fun c => yes (Or.inr (Or.inl c)), fun c1 => ⟨fun c => yes (Or.inr (Or.inr (Or.inl c))), fun c2 => ⟨fun c => yes (Or.inr (Or.inr (Or.inr (Or.inl c)))), fun c3 => ⟨fun c => yes (Or.inr (Or.inr (Or.inr (Or.inr (Or.inl c))))), fun c4 => ⟨fun c => yes (Or.inr (Or.inr (Or.inr (Or.inr (Or.inr (Or.inl c)))))), fun c5 => ⟨fun c => yes (Or.inr (Or.inr (Or.inr (Or.inr (Or.inr (Or.inr c)))))), fun c6 => ?_⟩⟩⟩⟩⟩⟩⟩
      have hn : ¬ isLt (hrF tx e p) := by
        rintro (q | q | q | q | q | q | q)
        · exact h1 q
        · exact c1 q
        · exact c2 q
        · exact c3 q
        · exact c4 q
        · exact c5 q
        · exact c6 q
      rw [if_neg hn] at hX
      subst hX
      rw [h.2.2.2.1]
      refine (fault_ok A h).to ?_
      rintro _ m1 ⟨rfl, h2, f2⟩
      refine ⟨rfl, rfl, ?_, by show q ≤ (fltF (nI p) (p, w)).1; rw [flt_1]; exact hq, f.tr f2 (RS_sub rfl)⟩
      show PS a sz tp e tx (fltF (nI p) (p, w)).1 (fltF (nI p) (p, w)).2 m1
      rw [flt_1]
      exact h2
theorem thg_ok {n dp : Nat} {gt gh : Sp → Int32 × Sp} (A : PA a na sz tp e) (hdp : dp ≤ 4)
    (It : ∀ p w m, PS a sz tp e tx p w m → EN ad g m → 4 * (e - p) + 1 ≤ n → Ct ad μX12_thing (d + n + 3) [.ref (ad 187), .int (nI dp)] m (PO a sz tp e tx p m (gt (p, w))))
    (Ih : dp < 4 → ∀ p w m, PS a sz tp e tx p w m → EN ad g m → 4 * (e - p) + 4 ≤ n → Ct ad μX12_held (d + n + 3) [.ref (ad 187), .int (nI (dp + 1))] m (PO a sz tp e tx p m (gh (p, w))))
    (p : Nat) (w : Int32) (m : Wm) (h : PS a sz tp e tx p w m) (E : EN ad g m) (hn : 4 * (e - p) + 1 ≤ n + 1) : Ct ad μX12_thing (d + n + 3 + 1) [.ref (ad 187), .int (nI dp)] m (PO a sz tp e tx p m (thgF tx e g gt gh dp (p, w))) := by
  have hpe : p ≤ e := h.2.2.2.2.2.1
  refine v_X12_thing ((passes_ok A h (by decide)).to ?_)
  rintro _ m1 ⟨rfl, h1, f1⟩
  by_cases e1 : passF tx e 45 (p, w) = true
  · rw [if_pos e1] at h1
    have hp := pass_lt e1 (by decide)
    refine ⟨1, by rw [if_pos e1], fun c => absurd c (by decide), fun _ => (It (p + 1) w m1 h1 (E.fx f1) (by have : p < e := hp; omega)).to ?_⟩
    rintro _ m2 ⟨rfl, h2, l2, f2⟩
    refine ⟨_, rfl, ?_⟩
    have ex : thgF tx e g gt gh dp (p, w) = (-(gt (p + 1, w)).1, (gt (p + 1, w)).2) := if_pos e1
    rw [ex]
    exact ⟨rfl, h2, by show p ≤ (gt (p + 1, w)).2.1; omega, f1.tr f2 (RS_sub rfl)⟩
  · rw [if_neg e1] at h1
    refine ⟨0, by rw [if_neg e1], fun _ => (fine_ok h1).to ?_, fun c => absurd rfl c⟩
    rintro _ m' ⟨eq, rfl⟩
    obtain rfl := eq.symm
    by_cases hw : w = -1
    · refine ⟨1, by rw [if_pos hw], fun _ => (here_ok A h1).to ?_, fun c => absurd c (by decide)⟩
      rintro _ m' ⟨eq, rfl⟩
      obtain rfl := eq.symm
      have ex : thgF tx e g gt gh dp (p, w) = if hrF tx e p = 40 ∧ dp < 4 then ((gh (p + 1, w)).1, needF tx e 41 (gh (p + 1, w)).2) else if 48 ≤ hrF tx e p ∧ hrF tx e p ≤ 57 then ((numF tx e 3 0 p).1, ((numF tx e 3 0 p).2, w)) else if isLt (hrF tx e p) then (g (hrF tx e p), (p + 1, w)) else (0, fltF (nI p) (p, w)) := by
        unfold thgF
        rw [if_neg e1, if_neg (fun q => q hw)]
      refine ⟨_, rfl, fun c40 => ?_, fun c40 => ⟨fun c4 => ?_, fun c4 => ?_⟩⟩
      · rw [if_neg (fun q => c40 q.1)] at ex
        exact a67 (d := d + n + 1) A h1 (E.fx f1) (Nat.le_refl _) f1 ex
      · have h4 := (nI_leI (a := 4) (b := dp) (by omega) (by omega)).mp c4
        rw [if_neg (fun q => by have := q.2; omega)] at ex
        exact a67 (d := d + n + 1) A h1 (E.fx f1) (Nat.le_refl _) f1 ex
      · have h4 : dp < 4 := by
          have := (not_congr (nI_leI (a := 4) (b := dp) (by omega) (by omega))).mp c4
          omega
        rw [if_pos ⟨c40, h4⟩] at ex
        rw [ex]
        have hp : p < e := by
          unfold hrF at c40
          by_cases hp : p < e
          · exact hp
          · rw [if_neg hp] at c40
            exact absurd c40 (by decide)
        have h2 := at_up A h1 hp
        have f2 : Fx (RS [22]) m m1 := f1
        have f3 : Fx (RS [22]) m1 (uI m1 187 21 ((m1.1 187 21) + 1)) := Fx.rf.i rfl
        rw [nI_1]
        refine (Ih h4 (p + 1) w _ h2 ((E.fx f2).fx f3) (by omega)).to ?_
        rintro _ m3 ⟨rfl, h3, l3, f4⟩
        refine ⟨_, rfl, (need_ok A h3 (by decide)).to ?_⟩
        rintro _ m4 ⟨rfl, h5, f5⟩
        exact ⟨rfl, rfl, h5, by have := need_le (tx := tx) (e := e) (c := 41) (s := (gh (p + 1, w)).2); show p ≤ (needF tx e 41 (gh (p + 1, w)).2).1; omega, ((f2.tr f3 (RS_sub rfl)).tr f4 (RS_sub rfl)).tr f5 (RS_sub rfl)⟩
    · refine ⟨0, by rw [if_neg hw], fun c => absurd rfl c, fun _ => ?_⟩
      have ex : thgF tx e g gt gh dp (p, w) = (0, (p, w)) := by
        unfold thgF
        rw [if_neg e1, if_pos hw]
      rw [ex]
      exact ⟨rfl, h1, Nat.le_refl _, f1⟩
theorem bool_of {b : Prop} [Decidable b] {x : Int32} : (if b then (1 : Int32) else 0) = x → (x = 0 ↔ ¬ b) := by
  rintro rfl
  by_cases h : b <;> simp [h]
theorem prl_ok {n dp : Nat} {gt : Sp → Int32 × Sp} (A : PA a na sz tp e)
    (It : ∀ p w m, PS a sz tp e tx p w m → EN ad g m → 4 * (e - p) + 1 ≤ n → Ct ad μX12_thing (d + n + 3) [.ref (ad 187), .int (nI dp)] m (PO a sz tp e tx p m (gt (p, w)))) :
    ∀ (k p q : Nat) (w acc : Int32) (m m0 : Wm), e - p < k → PS a sz tp e tx p w m → EN ad g m → 4 * (e - p) + 1 ≤ n + 1 → q ≤ p → Fx (RS [22]) m0 m → AW ad E0 μX12_product (d + n + 3 + 1) (PO a sz tp e tx q m0 (loopF tx e 42 47 opM gt k acc (p, w))) 6 [(0, .ref (ad 187)), (1, .int (nI dp)), (2, .int acc)] [] m := by
  intro k
  induction k with
  | zero => intros; omega
  | succ k ih =>
    intro p q w acc m m0 hk h E hn hq f
    have hpe : p ≤ e := h.2.2.2.2.2.1
    have stop : ¬ (w = -1 ∧ (hrF tx e p = 42 ∨ hrF tx e p = 47)) → PO a sz tp e tx q m0 (loopF tx e 42 47 opM gt (k + 1) acc (p, w)) (some (.int acc)) m := fun hc => by
      have ex : loopF tx e 42 47 opM gt (k + 1) acc (p, w) = (acc, (p, w)) := if_neg hc
      rw [ex]
      exact ⟨rfl, h, hq, f⟩
    have go : w = -1 → (hrF tx e p = 42 ∨ hrF tx e p = 47) → AW ad E0 μX12_product (d + n + 3 + 1) (PO a sz tp e tx q m0 (loopF tx e 42 47 opM gt (k + 1) acc (p, w))) 31 [(0, .ref (ad 187)), (1, .int (nI dp)), (2, .int acc)] [] m := fun hw hc => by
      have hp : p < e := by
        unfold hrF at hc
        by_cases hp : p < e
        · exact hp
        · rw [if_neg hp] at hc
          exact absurd hc (by decide)
      have ex : loopF tx e 42 47 opM gt (k + 1) acc (p, w) = loopF tx e 42 47 opM gt k (opM (decide (hrF tx e p = 42)) acc (gt (p + 1, w)).1) (gt (p + 1, w)).2 := if_pos ⟨hw, hc⟩
      rw [ex]
      have h1 := at_up A h hp
      have f1 : Fx (RS [22]) m (uI m 187 21 ((m.1 187 21) + 1)) := Fx.rf.i rfl
      have step : ∀ b : Bool, b = decide (hrF tx e p = 42) → AW ad E0 μX12_product (d + n + 3 + 1) (PO a sz tp e tx q m0 (loopF tx e 42 47 opM gt k (opM (decide (hrF tx e p = 42)) acc (gt (p + 1, w)).1) (gt (p + 1, w)).2)) 45 [(0, .ref (ad 187)), (1, .int (nI dp)), (2, .int acc)] [.int (if b = true then 1 else 0)] m := fun b hb => by
        rw [← hb]
        refine g_X12_product_45 ((It (p + 1) w _ h1 (E.fx f1) (by omega)).to ?_)
        rintro _ m2 ⟨rfl, h2, l2, f2⟩
        have h2e : (gt (p + 1, w)).2.1 ≤ e := h2.2.2.2.2.2.1
        have nx : ∀ v, v = opM b acc (gt (p + 1, w)).1 → AW ad E0 μX12_product (d + n + 3 + 1) (PO a sz tp e tx q m0 (loopF tx e 42 47 opM gt k (opM b acc (gt (p + 1, w)).1) (gt (p + 1, w)).2)) 6 [(0, .ref (ad 187)), (1, .int (nI dp)), (2, .int v)] [] m2 := fun v hv => by
          rw [hv]
          exact ih (gt (p + 1, w)).2.1 q (gt (p + 1, w)).2.2 _ m2 m0 (by omega) h2 ((E.fx f1).fx f2) (by omega) (by omega) ((f.tr f1 (RS_sub rfl)).tr f2 (RS_sub rfl))
        cases b with
        | true => exact ⟨_, rfl, fun c => absurd c (by decide), fun _ => nx _ rfl⟩
        | false =>
          refine ⟨_, rfl, fun _ => ⟨fun c => ⟨c, nx _ ?_⟩, fun c => nx _ ?_⟩, fun c => absurd rfl c⟩
          · show _ = if false = true then _ else if (gt (p + 1, w)).1 = 0 then 0 else _
            rw [if_neg (by decide), if_neg c]
          · show _ = if false = true then _ else if (gt (p + 1, w)).1 = 0 then 0 else _
            rw [if_neg (by decide), if_pos c]
      refine g_X12_product_31 ((here_ok A h).to ?_)
      rintro _ m' ⟨eq, rfl⟩
      obtain rfl := eq.symm
      refine ⟨_, rfl, fun c => ?_, fun c => ?_⟩
      · have := step false (by rw [decide_eq_false c])
        exact this
      · have := step true (by rw [decide_eq_true c])
        exact this
    refine g_X12_product_6 ((fine_ok h).to ?_)
    rintro _ m' ⟨eq, rfl⟩
    obtain rfl := eq.symm
    by_cases hw : w = -1
    · refine ⟨1, by rw [if_pos hw], fun c => absurd c (by decide), fun _ => (here_ok A h).to ?_⟩
      rintro _ m' ⟨eq, rfl⟩
      obtain rfl := eq.symm
      refine ⟨_, rfl, fun c => go hw (Or.inl c), fun c => (here_ok A h).to ?_⟩
      rintro _ m' ⟨eq, rfl⟩
      obtain rfl := eq.symm
      exact ⟨_, rfl, fun c' => stop (fun q => q.2.elim c c'), fun c' => go hw (Or.inr c')⟩
    · exact ⟨0, by rw [if_neg hw], fun _ => stop (fun q => hw q.1), fun c => absurd rfl c⟩
theorem sml_ok {n dp : Nat} {gt : Sp → Int32 × Sp} (A : PA a na sz tp e)
    (It : ∀ p w m, PS a sz tp e tx p w m → EN ad g m → 4 * (e - p) + 2 ≤ n → Ct ad μX12_product (d + n + 3) [.ref (ad 187), .int (nI dp)] m (PO a sz tp e tx p m (gt (p, w)))) :
    ∀ (k p q : Nat) (w acc : Int32) (m m0 : Wm), e - p < k → PS a sz tp e tx p w m → EN ad g m → 4 * (e - p) + 2 ≤ n + 1 → q ≤ p → Fx (RS [22]) m0 m → AW ad E0 μX12_sum (d + n + 3 + 1) (PO a sz tp e tx q m0 (loopF tx e 43 45 opA gt k acc (p, w))) 6 [(0, .ref (ad 187)), (1, .int (nI dp)), (2, .int acc)] [] m := by
  intro k
  induction k with
  | zero => intros; omega
  | succ k ih =>
    intro p q w acc m m0 hk h E hn hq f
    have hpe : p ≤ e := h.2.2.2.2.2.1
    have stop : ¬ (w = -1 ∧ (hrF tx e p = 43 ∨ hrF tx e p = 45)) → PO a sz tp e tx q m0 (loopF tx e 43 45 opA gt (k + 1) acc (p, w)) (some (.int acc)) m := fun hc => by
      have ex : loopF tx e 43 45 opA gt (k + 1) acc (p, w) = (acc, (p, w)) := if_neg hc
      rw [ex]
      exact ⟨rfl, h, hq, f⟩
    have go : w = -1 → (hrF tx e p = 43 ∨ hrF tx e p = 45) → AW ad E0 μX12_sum (d + n + 3 + 1) (PO a sz tp e tx q m0 (loopF tx e 43 45 opA gt (k + 1) acc (p, w))) 31 [(0, .ref (ad 187)), (1, .int (nI dp)), (2, .int acc)] [] m := fun hw hc => by
      have hp : p < e := by
        unfold hrF at hc
        by_cases hp : p < e
        · exact hp
        · rw [if_neg hp] at hc
          exact absurd hc (by decide)
      have ex : loopF tx e 43 45 opA gt (k + 1) acc (p, w) = loopF tx e 43 45 opA gt k (opA (decide (hrF tx e p = 43)) acc (gt (p + 1, w)).1) (gt (p + 1, w)).2 := if_pos ⟨hw, hc⟩
      rw [ex]
      have h1 := at_up A h hp
      have f1 : Fx (RS [22]) m (uI m 187 21 ((m.1 187 21) + 1)) := Fx.rf.i rfl
      have step : ∀ b : Bool, b = decide (hrF tx e p = 43) → AW ad E0 μX12_sum (d + n + 3 + 1) (PO a sz tp e tx q m0 (loopF tx e 43 45 opA gt k (opA (decide (hrF tx e p = 43)) acc (gt (p + 1, w)).1) (gt (p + 1, w)).2)) 45 [(0, .ref (ad 187)), (1, .int (nI dp)), (2, .int acc)] [.int (if b = true then 1 else 0)] m := fun b hb => by
        rw [← hb]
        refine g_X12_sum_45 ((It (p + 1) w _ h1 (E.fx f1) (by omega)).to ?_)
        rintro _ m2 ⟨rfl, h2, l2, f2⟩
        have h2e : (gt (p + 1, w)).2.1 ≤ e := h2.2.2.2.2.2.1
        have nx : AW ad E0 μX12_sum (d + n + 3 + 1) (PO a sz tp e tx q m0 (loopF tx e 43 45 opA gt k (opA b acc (gt (p + 1, w)).1) (gt (p + 1, w)).2)) 6 [(0, .ref (ad 187)), (1, .int (nI dp)), (2, .int (opA b acc (gt (p + 1, w)).1))] [] m2 :=
          ih (gt (p + 1, w)).2.1 q (gt (p + 1, w)).2.2 _ m2 m0 (by omega) h2 ((E.fx f1).fx f2) (by omega) (by omega) ((f.tr f1 (RS_sub rfl)).tr f2 (RS_sub rfl))
        cases b with
        | true => exact ⟨_, rfl, fun c => absurd c (by decide), fun _ => nx⟩
        | false => exact ⟨_, rfl, fun _ => nx, fun c => absurd rfl c⟩
      refine g_X12_sum_31 ((here_ok A h).to ?_)
      rintro _ m' ⟨eq, rfl⟩
      obtain rfl := eq.symm
      refine ⟨_, rfl, fun c => ?_, fun c => ?_⟩
      · have := step false (by rw [decide_eq_false c])
        exact this
      · have := step true (by rw [decide_eq_true c])
        exact this
    refine g_X12_sum_6 ((fine_ok h).to ?_)
    rintro _ m' ⟨eq, rfl⟩
    obtain rfl := eq.symm
    by_cases hw : w = -1
    · refine ⟨1, by rw [if_pos hw], fun c => absurd c (by decide), fun _ => (here_ok A h).to ?_⟩
      rintro _ m' ⟨eq, rfl⟩
      obtain rfl := eq.symm
      refine ⟨_, rfl, fun c => go hw (Or.inl c), fun c => (here_ok A h).to ?_⟩
      rintro _ m' ⟨eq, rfl⟩
      obtain rfl := eq.symm
      exact ⟨_, rfl, fun c' => stop (fun q => q.2.elim c c'), fun c' => go hw (Or.inr c')⟩
    · exact ⟨0, by rw [if_neg hw], fun _ => stop (fun q => hw q.1), fun c => absurd rfl c⟩
theorem hld_ok {n dp : Nat} {gs : Sp → Int32 × Sp} (A : PA a na sz tp e)
    (Is : ∀ p w m, PS a sz tp e tx p w m → EN ad g m → 4 * (e - p) + 3 ≤ n → Ct ad μX12_sum (d + n + 3) [.ref (ad 187), .int (nI dp)] m (PO a sz tp e tx p m (gs (p, w))))
    (p : Nat) (w : Int32) (m : Wm) (h : PS a sz tp e tx p w m) (E : EN ad g m) (hn : 4 * (e - p) + 4 ≤ n + 1) : Ct ad μX12_held (d + n + 3 + 1) [.ref (ad 187), .int (nI dp)] m (PO a sz tp e tx p m (cmpF tx e gs (gs (p, w)))) := by
  have hpe : p ≤ e := h.2.2.2.2.2.1
  refine v_X12_held ((Is p w m h E (by omega)).to ?_)
  rintro _ m1 ⟨rfl, h1, l1, f1⟩
  generalize gs (p, w) = X at h1 l1 ⊢
  obtain ⟨x, q, u⟩ := X
  have hqe : q ≤ e := h1.2.2.2.2.2.1
  have E1 := E.fx f1
  refine ⟨x, rfl, (passes_ok A h1 (c := 60) (by decide)).to ?_⟩
  rintro _ m2 ⟨rfl, h2, f2⟩
  by_cases e1 : passF tx e 60 (q, u) = true
  · rw [if_pos e1] at h2
    have hq : q < e := pass_lt e1 (by decide)
    refine ⟨1, by rw [if_pos e1], fun c => absurd c (by decide), fun _ => (Is (q + 1) u m2 h2 (E1.fx f2) (by have : p ≤ q := l1; omega)).to ?_⟩
    rintro _ m3 ⟨rfl, h3, l3, f3⟩
    have ex : cmpF tx e gs (x, (q, u)) = ((if x < (gs (q + 1, u)).1 then 1 else 0), (gs (q + 1, u)).2) := if_pos e1
    rw [ex]
    have fin : Fx (RS [22]) m m3 := (f1.tr f2 (RS_sub rfl)).tr f3 (RS_sub rfl)
    refine ⟨_, rfl, fun c => ⟨?_, h3, by have : p ≤ q := l1; show p ≤ (gs (q + 1, u)).2.1; omega, fin⟩, fun c => ⟨?_, h3, by have : p ≤ q := l1; show p ≤ (gs (q + 1, u)).2.1; omega, fin⟩⟩
    · rw [if_neg (Int32.not_lt.mpr c)]
    · rw [if_pos (fa_of_nle c)]
  · rw [if_neg e1] at h2
    refine ⟨0, by rw [if_neg e1], fun _ => (passes_ok A h2 (c := 62) (by decide)).to ?_, fun c => absurd rfl c⟩
    rintro _ m3 ⟨rfl, h3, f3⟩
    by_cases e2 : passF tx e 62 (q, u) = true
    · rw [if_pos e2] at h3
      have hq : q < e := pass_lt e2 (by decide)
      refine ⟨1, by rw [if_pos e2], fun c => absurd c (by decide), fun _ => (Is (q + 1) u m3 h3 ((E1.fx f2).fx f3) (by have : p ≤ q := l1; omega)).to ?_⟩
      rintro _ m4 ⟨rfl, h4, l4, f4⟩
      have ex : cmpF tx e gs (x, (q, u)) = ((if (gs (q + 1, u)).1 < x then 1 else 0), (gs (q + 1, u)).2) := by
        unfold cmpF
        rw [if_neg e1, if_pos e2]
      rw [ex]
      have fin : Fx (RS [22]) m m4 := ((f1.tr f2 (RS_sub rfl)).tr f3 (RS_sub rfl)).tr f4 (RS_sub rfl)
      refine ⟨_, rfl, fun c => ⟨?_, h4, by have : p ≤ q := l1; show p ≤ (gs (q + 1, u)).2.1; omega, fin⟩, fun c => ⟨?_, h4, by have : p ≤ q := l1; show p ≤ (gs (q + 1, u)).2.1; omega, fin⟩⟩
      · rw [if_neg (Int32.not_lt.mpr c)]
      · rw [if_pos (fa_of_nle c)]
    · rw [if_neg e2] at h3
      refine ⟨0, by rw [if_neg e2], fun _ => (passes_ok A h3 (c := 61) (by decide)).to ?_, fun c => absurd rfl c⟩
      rintro _ m4 ⟨rfl, h4, f4⟩
      by_cases e3 : passF tx e 61 (q, u) = true
      · rw [if_pos e3] at h4
        have hq : q < e := pass_lt e3 (by decide)
        refine ⟨1, by rw [if_pos e3], fun c => absurd c (by decide), fun _ => (Is (q + 1) u m4 h4 (((E1.fx f2).fx f3).fx f4) (by have : p ≤ q := l1; omega)).to ?_⟩
        rintro _ m5 ⟨rfl, h5, l5, f5⟩
        have ex : cmpF tx e gs (x, (q, u)) = ((if x = (gs (q + 1, u)).1 then 1 else 0), (gs (q + 1, u)).2) := by
          unfold cmpF
          rw [if_neg e1, if_neg e2, if_pos e3]
        rw [ex]
        have fin : Fx (RS [22]) m m5 := (((f1.tr f2 (RS_sub rfl)).tr f3 (RS_sub rfl)).tr f4 (RS_sub rfl)).tr f5 (RS_sub rfl)
        refine ⟨_, rfl, fun c => ⟨?_, h5, by have : p ≤ q := l1; show p ≤ (gs (q + 1, u)).2.1; omega, fin⟩, fun c => ⟨?_, h5, by have : p ≤ q := l1; show p ≤ (gs (q + 1, u)).2.1; omega, fin⟩⟩
        · rw [if_neg c]
        · rw [if_pos c]
      · rw [if_neg e3] at h4
        have ex : cmpF tx e gs (x, (q, u)) = (x, (q, u)) := by
          unfold cmpF
          rw [if_neg e1, if_neg e2, if_neg e3]
        rw [ex]
        exact ⟨0, by rw [if_neg e3], fun _ => ⟨rfl, h4, l1, ((f1.tr f2 (RS_sub rfl)).tr f3 (RS_sub rfl)).tr f4 (RS_sub rfl)⟩, fun c => absurd rfl c⟩
/-- all four together -/
theorem rul_ok (A : PA a na sz tp e) : ∀ n : Nat,
    (∀ dp, dp ≤ 4 → ∀ p w m, PS a sz tp e tx p w m → EN ad g m → 4 * (e - p) + 1 ≤ n → Ct ad μX12_thing (d + n + 3) [.ref (ad 187), .int (nI dp)] m (PO a sz tp e tx p m (prF tx e g n 0 dp (p, w)))) ∧
    (∀ dp, dp ≤ 4 → ∀ p w m, PS a sz tp e tx p w m → EN ad g m → 4 * (e - p) + 2 ≤ n → Ct ad μX12_product (d + n + 3) [.ref (ad 187), .int (nI dp)] m (PO a sz tp e tx p m (prF tx e g n 1 dp (p, w)))) ∧
    (∀ dp, dp ≤ 4 → ∀ p w m, PS a sz tp e tx p w m → EN ad g m → 4 * (e - p) + 3 ≤ n → Ct ad μX12_sum (d + n + 3) [.ref (ad 187), .int (nI dp)] m (PO a sz tp e tx p m (prF tx e g n 2 dp (p, w)))) ∧
    (∀ dp, dp ≤ 4 → ∀ p w m, PS a sz tp e tx p w m → EN ad g m → 4 * (e - p) + 4 ≤ n → Ct ad μX12_held (d + n + 3) [.ref (ad 187), .int (nI dp)] m (PO a sz tp e tx p m (prF tx e g n 3 dp (p, w)))) := by
  have he : e ≤ 80 := by have := A.2.2.2.1; have := A.2.2.2.2.1; omega
  intro n
  induction n with
  | zero => exact ⟨fun _ _ _ _ _ _ _ h => by omega, fun _ _ _ _ _ _ _ h => by omega, fun _ _ _ _ _ _ _ h => by omega, fun _ _ _ _ _ _ _ h => by omega⟩
  | succ n ih =>
    obtain ⟨i0, i1, i2, i3⟩ := ih
    refine ⟨fun dp hdp p w m h E hn => ?_, fun dp hdp p w m h E hn => ?_, fun dp hdp p w m h E hn => ?_, fun dp hdp p w m h E hn => ?_⟩
    · exact thg_ok A hdp (i0 dp hdp) (fun h4 => i3 (dp + 1) (by omega)) p w m h E hn
    · refine v_X12_product ((i0 dp hdp p w m h E (by omega)).to ?_)
      rintro _ m1 ⟨rfl, h1, l1, f1⟩
      have l2 : p ≤ (prF tx e g n 0 dp (p, w)).2.1 := l1
      exact ⟨_, rfl, prl_ok A (i0 dp hdp) 81 (prF tx e g n 0 dp (p, w)).2.1 p _ _ m1 m (by omega) h1 (E.fx f1) (by omega) l2 f1⟩
    · refine v_X12_sum ((i1 dp hdp p w m h E (by omega)).to ?_)
      rintro _ m1 ⟨rfl, h1, l1, f1⟩
      have l2 : p ≤ (prF tx e g n 1 dp (p, w)).2.1 := l1
      exact ⟨_, rfl, sml_ok A (i1 dp hdp) 81 (prF tx e g n 1 dp (p, w)).2.1 p _ _ m1 m (by omega) h1 (E.fx f1) (by omega) l2 f1⟩
    · exact hld_ok A (i2 dp hdp) p w m h E hn
end DES
