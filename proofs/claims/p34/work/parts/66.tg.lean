section
/-! CALLS: top, quick, best, even, all -/
abbrev InD (n : Nat) (x : Int32) : Prop := 0 ≤ x.toInt ∧ x.toInt < n
/-- the first of which b says yes -/
def fstI (b : Nat → Bool) : Nat → Nat → Option Nat
  | 0, _ => none
  | k + 1, i => if b i = true then some i else fstI b k (i + 1)
def ixA : Option Nat → Int32
  | none => -1
  | some i => nI i
def wyA (S : SSt) : Option Nat → Int32
  | none => -2
  | some i => nI (dS S i)
def skB (S : SSt) (s a : Nat) (x : Int32) (i : Nat) : Bool := !decide (kS S i (4 * s + a) < x)
/-- have all x or more -/
def alB (f : Nat → Int32) (x : Int32) : Nat → Nat → Bool
  | 0, _ => true
  | k + 1, s => if f s < x then false else alB f x k (s + 1)
def stB (v : EV) (p : PSt) (S : SSt) (x : Int32) (i : Nat) : Bool := alB (pwG v (kS S i, p)) x (nE v) 0
/-- the greatest, the least of the first so many; 0 of none -/
def gpA (f : Nat → Int32) : Nat → Int32
  | 0 => 0
  | k + 1 => if k = 0 then f 0 else if f k ≤ gpA f k then gpA f k else f k
def lgA (f : Nat → Int32) : Nat → Int32
  | 0 => 0
  | k + 1 => if k = 0 then f 0 else if lgA f k ≤ f k then lgA f k else f k
def orS (T : Option SSt) (k : SSt → Int32) : Int32 := match T with
  | none => -3
  | some S => k S
theorem fstI_lt {b : Nat → Bool} : ∀ k i j, fstI b k i = some j → i ≤ j ∧ j < i + k := by
  intro k
  induction k with
  | zero => intro i j h; cases h
  | succ k ih =>
    intro i j h
    have h' : (if b i = true then some i else fstI b k (i + 1)) = some j := h
    by_cases c : b i = true
    · rw [if_pos c] at h'
      have := Option.some.inj h'
      omega
    · rw [if_neg c] at h'
      have := ih _ _ h'
      omega
theorem fst_y {b : Nat → Bool} {k i : Nat} (c : b i = true) : fstI b (k + 1) i = some i := if_pos c
theorem fst_n {b : Nat → Bool} {k i : Nat} (c : b i = false) : fstI b (k + 1) i = fstI b k (i + 1) := if_neg (by rw [c]; decide)
section ENC
variable {ad : Nat → Nat} {d t a w b s : Nat} {m m' m0 : Wm} {g : GS} {v : EV} {p : PSt} {S : SSt} {x : Int32}
theorem firstC (hS : SC m S) (hs : s < 8) (ha : a < 4) : Ct ad μX9_firstWith (d + 1) [.ref (ad 151), .int (nI s), .int (nI a), .int x] m (fun r m' => m' = m ∧ r = some (.int (ixA (fstI (skB S s a x) (nS S) 0)))) := by
  have hN := hS.n
  have c4 := hS.c4
  have L : ∀ k i, i + k = nS S → AW ad E0 μX9_firstWith (d + 1) (fun r m' => m' = m ∧ r = some (.int (ixA (fstI (skB S s a x) k i)))) 3 [(0, .ref (ad 151)), (1, .int (nI s)), (2, .int (nI a)), (3, .int x), (4, .int (nI i))] [] m := by
    intro k
    induction k with
    | zero =>
      intro i hi
      obtain rfl : i = nS S := hi
      exact g_X9_firstWith_3 ⟨fun _ => ⟨rfl, rfl⟩, fun c => absurd (by rw [c4]; exact (nI_leI (by omega) (by omega)).mpr (Nat.le_refl _)) c⟩
    | succ k ih =>
      intro i hi
      obtain ⟨a1, a2, a3⟩ := hS.2 i (by omega)
      refine g_X9_firstWith_3 ⟨fun c => absurd (by rw [c4] at c; exact (nI_leI (by omega) (by omega)).mp c) (by omega), fun _ => (getC (d := d) a1 a2 a3 (by omega) hs ha).to ?_⟩
      rintro _ m1 ⟨eq, rfl⟩
      obtain rfl := eq.symm
      refine ⟨_, rfl, fun c => ?_, fun c => ⟨rfl, ?_⟩⟩
      · have e : skB S s a x i = false := by unfold skB; rw [decide_eq_true c]; rfl
        rw [fst_n e, nI_1]
        exact ih (i + 1) (by omega)
      · have e : skB S s a x i = true := by unfold skB; rw [decide_eq_false c]; rfl
        rw [fst_y e]
        rfl
  exact v_X9_firstWith (L (nS S) 0 (by omega))
theorem EJ.n8 (h : EJ v p S m0 m) : nE v ≤ 8 := h.2.2.2.2.2.1.2.2.1
/-- a state's skills brought back -/
theorem unpackE (h : EJ v p S m0 m) {i : Nat} (hi : i < nS S) : Ct ad μX6_unpackAll (d + 2) [.ref (ad 156), .ref (ad 3), .int (nI i)] m (fun r m' => r = none ∧ EJ v p S m0 m' ∧ HC 157 m' (kS S i, p)) := by
  obtain ⟨w0, f0, s0, d0, ⟨f, h0, hz⟩, e0, z0⟩ := h
  have zt := (z0 i hi p).1.1
  refine (unpackAllC (d := d) w0 s0 hi h0 e0.1 e0.2.2.1 (fun k k1 k2 => (hz k k1 k2).trans (zt k k1 k2).symm)).to ?_
  rintro _ m1 ⟨rfl, w1, f1, h1⟩
  exact ⟨rfl, ⟨w1, f0.tr f1 (RS_sub rfl), s0.fx f1 rfl, d0.fx f1 rfl, ⟨_, h1, fun k q1 q2 => zt k q1 q2⟩, e0.fx f1 rfl, z0⟩, h1⟩
theorem EJ.st {R : List Nat} (h : EJ v p S m0 m) (w1 : WT m') (f : Fx (RS R) m m') (e : (R.all fun x => [14].elem x) = true) : EJ v p S m0 m' := by
  obtain ⟨w0, f0, s0, d0, ⟨f', h0, hz⟩, e0, z0⟩ := h
  have f1 : Fx (RS [14]) m m' := (Fx.rf (S := RS [14])).tr f (RS_sub e)
  exact ⟨w1, f0.tr f1 (RS_sub rfl), s0.fx f1 rfl, d0.fx f1 rfl, ⟨f', h0.fx SS_157 f1 rfl, hz⟩, e0.fx f1 rfl, z0⟩
theorem EJ.hc {i : Nat} {R : List Nat} (h : HC 157 m (kS S i, p)) (f : Fx (RS R) m m') (e : R.elem 11 = false) : HC 157 m' (kS S i, p) := h.fx SS_157 f e
theorem EJ.fd (h : EJ v p S m0 m) {i : Nat} (hi : i < nS S) : EJ v p S m0 (uI m 156 6 (nI i)) := by
  obtain ⟨w0, f0, s0, d0, ⟨f', h0, hz⟩, e0, z0⟩ := h
  have hN := s0.n
  have ti : (nI i).toInt = (i : Int) := nI_toInt (by omega)
  have F : Fx (RS [11]) m (uI m 156 6 (nI i)) := Fx.i Fx.rf rfl
  exact ⟨w0.t rfl (by omega) (by omega), f0.tr F (RS_sub rfl), s0.fx F rfl, d0.fx F rfl, ⟨f', h0.o (by omega), hz⟩, e0.fx F rfl, z0⟩
theorem strongC (h : EJ v p S m0 m) : Ct ad μX6_firstStrong (d + 5) [.ref (ad 156), .ref (ad 3), .int x] m (fun r m' => EJ v p S m0 m' ∧ r = some (.int (ixA (fstI (stB v p S x) (nS S) 0)))) := by
  have hN := h.2.2.1.n
  have n8 := h.n8
  have L : ∀ k i (m1 : Wm), i + k = nS S → EJ v p S m0 m1 → AW ad E0 μX6_firstStrong (d + 5) (fun r m' => EJ v p S m0 m' ∧ r = some (.int (ixA (fstI (stB v p S x) k i)))) 2 [(0, .ref (ad 156)), (1, .ref (ad 3)), (2, .int x), (3, .int (nI i))] [] m1 := by
    intro k
    induction k with
    | zero =>
      intro i m1 hi h1
      obtain rfl : i = nS S := hi
      have c4 := h1.2.2.1.c4
      exact g_X6_firstStrong_2 (d := d + 4) ⟨fun _ => ⟨h1, rfl⟩, fun c => absurd (by rw [c4]; exact (nI_leI (by omega) (by omega)).mpr (Nat.le_refl _)) c⟩
    | succ k ih =>
      intro i m1 hi h1
      have c4 := h1.2.2.1.c4
      refine g_X6_firstStrong_2 (d := d + 4) ⟨fun c => absurd (by rw [c4] at c; exact (nI_leI (by omega) (by omega)).mp c) (by omega), fun _ => (unpackE (d := d + 2) h1 (i := i) (by omega)).to ?_⟩
      rintro _ m2 ⟨rfl, h2, c2⟩
      refine ⟨rfl, ?_⟩
      have FIN : ∀ (q : Bool) (m3 : Wm), EJ v p S m0 m3 → stB v p S x i = q → ((((if q = true then (1 : Int32) else 0) = 0 → AW ad E0 μX6_firstStrong (d + 5) (fun r m' => EJ v p S m0 m' ∧ r = some (.int (ixA (fstI (stB v p S x) (k + 1) i)))) 2 [(0, .ref (ad 156)), (1, .ref (ad 3)), (2, .int x), (3, .int (nI i + (1 : Int32)))] [] m3) ∧ (¬ (if q = true then (1 : Int32) else 0) = 0 → EJ v p S m0 m3 ∧ some (Value.int (nI i)) = some (.int (ixA (fstI (stB v p S x) (k + 1) i)))))) := by
        intro q m3 h3 e
        cases q with
        | true => exact ⟨fun c => absurd c (by decide), fun _ => ⟨h3, by rw [fst_y e]; rfl⟩⟩
        | false =>
          refine ⟨fun _ => ?_, fun c => absurd rfl c⟩
          rw [fst_n e, nI_1]
          exact ih (i + 1) m3 (by omega) h3
      have M : ∀ j s (m3 : Wm), s + j = nE v → EJ v p S m0 m3 → HC 157 m3 (kS S i, p) → stB v p S x i = alB (pwG v (kS S i, p)) x j s → AW ad E0 μX6_firstStrong (d + 5) (fun r m' => EJ v p S m0 m' ∧ r = some (.int (ixA (fstI (stB v p S x) (k + 1) i)))) 25 [(0, .ref (ad 156)), (1, .ref (ad 3)), (2, .int x), (3, .int (nI i)), (4, .int (1 : Int32)), (5, .int (nI s))] [] m3 := by
        intro j
        induction j with
        | zero =>
          intro s m3 hs h3 c3 e
          obtain rfl : s = nE v := hs
          have e33 := h3.2.2.2.2.2.1.1
          refine g_X6_firstStrong_25 (d := d + 4) ⟨fun _ => FIN true m3 h3 e, fun c => absurd (by rw [e33]; exact (nI_leI (by omega) (by omega)).mpr (Nat.le_refl _)) c⟩
        | succ j ihj =>
          intro s m3 hs h3 c3 e
          have ec := h3.2.2.2.2.2.1
          have e33 := ec.1
          have e' : stB v p S x i = if pwG v (kS S i, p) s < x then false else alB (pwG v (kS S i, p)) x j (s + 1) := e
          refine g_X6_firstStrong_25 (d := d + 4) ⟨fun c => absurd (by rw [e33] at c; exact (nI_leI (by omega) (by omega)).mp c) (by omega), fun _ => ⟨fun c => absurd c (by decide), fun _ => (powCb (d := d) SS_157 G11 h3.1 c3 ec (s := s) (by omega)).to ?_⟩⟩
          rintro _ m4 ⟨w4, f4, rfl⟩
          have h4 := h3.st w4 f4 rfl
          have c4' : HC 157 m4 (kS S i, p) := c3.fx SS_157 f4 rfl
          refine ⟨_, rfl, fun c => ?_, fun c => ?_⟩
          · rw [if_pos c] at e'
            have F := FIN false m4 h4 e'
            exact g_X6_firstStrong_25 (d := d + 4) ⟨fun _ => F, fun _ => ⟨fun _ => F, fun z => absurd rfl z⟩⟩
          · rw [if_neg c] at e'
            rw [nI_1]
            exact ihj (s + 1) m4 (by omega) h4 c4' e'
      exact M (nE v) 0 m2 (by omega) h2 c2 rfl
  exact v_X6_firstStrong (d := d + 4) (L (nS S) 0 m (by omega) h)
theorem gpA_0 {f : Nat → Int32} {k : Nat} (h : k = 0) : gpA f (k + 1) = f k := by subst h; rfl
theorem gpA_p {f : Nat → Int32} {k : Nat} (h : ¬ k = 0) (c : f k ≤ gpA f k) : gpA f (k + 1) = gpA f k := (if_neg h).trans (if_pos c)
theorem gpA_n {f : Nat → Int32} {k : Nat} (h : ¬ k = 0) (c : ¬ f k ≤ gpA f k) : gpA f (k + 1) = f k := (if_neg h).trans (if_neg c)
theorem lgA_0 {f : Nat → Int32} {k : Nat} (h : k = 0) : lgA f (k + 1) = f k := by subst h; rfl
theorem lgA_p {f : Nat → Int32} {k : Nat} (h : ¬ k = 0) (c : lgA f k ≤ f k) : lgA f (k + 1) = lgA f k := (if_neg h).trans (if_pos c)
theorem lgA_n {f : Nat → Int32} {k : Nat} (h : ¬ k = 0) (c : ¬ lgA f k ≤ f k) : lgA f (k + 1) = f k := (if_neg h).trans (if_neg c)
theorem greatC (h : EJ v p S m0 m) (hs : s < 8) : Ct ad μX6_greatestPower (d + 5) [.ref (ad 156), .ref (ad 3), .int (nI s)] m (fun r m' => EJ v p S m0 m' ∧ r = some (.int (gpA (fun i => pwG v (kS S i, p) s) (nS S)))) := by
  have hN := h.2.2.1.n
  have L : ∀ k i (m1 : Wm), i + k = nS S → EJ v p S m0 m1 → AW ad E0 μX6_greatestPower (d + 5) (fun r m' => EJ v p S m0 m' ∧ r = some (.int (gpA (fun i => pwG v (kS S i, p) s) (nS S)))) 5 [(0, .ref (ad 156)), (1, .ref (ad 3)), (2, .int (nI s)), (3, .int (gpA (fun i => pwG v (kS S i, p) s) i)), (4, .int (nI i))] [] m1 := by
    intro k
    induction k with
    | zero =>
      intro i m1 hi h1
      obtain rfl : i = nS S := hi
      have c4 := h1.2.2.1.c4
      exact g_X6_greatestPower_5 (d := d + 4) ⟨fun _ => ⟨h1, rfl⟩, fun c => absurd (by rw [c4]; exact (nI_leI (by omega) (by omega)).mpr (Nat.le_refl _)) c⟩
    | succ k ih =>
      intro i m1 hi h1
      have c4 := h1.2.2.1.c4
      refine g_X6_greatestPower_5 (d := d + 4) ⟨fun c => absurd (by rw [c4] at c; exact (nI_leI (by omega) (by omega)).mp c) (by omega), fun _ => (unpackE (d := d + 2) h1 (i := i) (by omega)).to ?_⟩
      rintro _ m2 ⟨rfl, h2, c2⟩
      refine ⟨rfl, (powCb (d := d) SS_157 G11 h2.1 c2 h2.2.2.2.2.2.1 hs).to ?_⟩
      rintro _ m3 ⟨w3, f3, rfl⟩
      have h3 := h2.st w3 f3 rfl
      have J : gpA (fun i => pwG v (kS S i, p) s) (i + 1) = pwG v (kS S i, p) s → AW ad E0 μX6_greatestPower (d + 5) (fun r m' => EJ v p S m0 m' ∧ r = some (.int (gpA (fun i => pwG v (kS S i, p) s) (nS S)))) 46 [(0, .ref (ad 156)), (1, .ref (ad 3)), (2, .int (nI s)), (4, .int (nI i)), (5, .int (pwG v (kS S i, p) s))] [] m3 := fun e => by
        refine g_X6_greatestPower_46 (d := d + 4) ?_
        rw [nI_1, ← e]
        exact ih (i + 1) _ (by omega) (h3.fd (by omega))
      refine ⟨_, rfl, fun c => J (gpA_0 ((nI_eq (a := i) (b := 0) (by omega) (by decide)).mp c)), fun c => ?_⟩
      have hi0 : ¬ i = 0 := fun z => c (by rw [z]; rfl)
      refine ⟨fun c2 => ?_, fun c2 => J (gpA_n hi0 c2)⟩
      rw [nI_1]
      have := ih (i + 1) m3 (by omega) h3
      rw [gpA_p (f := fun i => pwG v (kS S i, p) s) hi0 c2] at this
      exact this
  exact v_X6_greatestPower (d := d + 4) (L (nS S) 0 m (by omega) h)
theorem gapC (h : EJ v p S m0 m) (hn0 : 0 < nE v) : Ct ad μX6_leastGap (d + 6) [.ref (ad 156), .ref (ad 3)] m (fun r m' => EJ v p S m0 m' ∧ r = some (.int (lgA (fun i => sprA v (kS S i, p)) (nS S)))) := by
  have hN := h.2.2.1.n
  have n8 := h.n8
  have L : ∀ k i (m1 : Wm), i + k = nS S → EJ v p S m0 m1 → AW ad E0 μX6_leastGap (d + 6) (fun r m' => EJ v p S m0 m' ∧ r = some (.int (lgA (fun i => sprA v (kS S i, p)) (nS S)))) 4 [(0, .ref (ad 156)), (1, .ref (ad 3)), (2, .int (lgA (fun i => sprA v (kS S i, p)) i)), (3, .int (nI i))] [] m1 := by
    intro k
    induction k with
    | zero =>
      intro i m1 hi h1
      obtain rfl : i = nS S := hi
      have c4 := h1.2.2.1.c4
      exact g_X6_leastGap_4 (d := d + 5) ⟨fun _ => ⟨h1, rfl⟩, fun c => absurd (by rw [c4]; exact (nI_leI (by omega) (by omega)).mpr (Nat.le_refl _)) c⟩
    | succ k ih =>
      intro i m1 hi h1
      have c4 := h1.2.2.1.c4
      have ea : sprA v (kS S i, p) = pwG v (kS S i, p) (bsF (pwG v (kS S i, p)) (nE v)) - pwG v (kS S i, p) (wkF (pwG v (kS S i, p)) (nE v)) := if_neg (by omega)
      have hb := bsF_lt (f := pwG v (kS S i, p)) hn0 (nE v) (Nat.le_refl _)
      have hw := wkF_lt (f := pwG v (kS S i, p)) hn0 (nE v) (Nat.le_refl _)
      refine g_X6_leastGap_4 (d := d + 5) ⟨fun c => absurd (by rw [c4] at c; exact (nI_leI (by omega) (by omega)).mp c) (by omega), fun _ => (unpackE (d := d + 3) h1 (i := i) (by omega)).to ?_⟩
      rintro _ m2 ⟨rfl, h2, c2⟩
      refine ⟨rfl, (strCb (d := d) SS_157 G11 h2.1 c2 h2.2.2.2.2.2.1 hn0).to ?_⟩
      rintro _ m3 ⟨w3, f3, rfl⟩
      have h3 := h2.st w3 f3 rfl
      have c3 := EJ.hc c2 f3 rfl
      refine ⟨_, rfl, (powCb (d := d + 1) SS_157 G11 h3.1 c3 h3.2.2.2.2.2.1 (s := bsF (pwG v (kS S i, p)) (nE v)) (by omega)).to ?_⟩
      rintro _ m4 ⟨w4, f4, rfl⟩
      have h4 := h3.st w4 f4 rfl
      have c4' := EJ.hc c3 f4 rfl
      refine ⟨_, rfl, (weaCb (d := d) SS_157 G11 h4.1 c4' h4.2.2.2.2.2.1 hn0).to ?_⟩
      rintro _ m5 ⟨w5, f5, rfl⟩
      have h5 := h4.st w5 f5 rfl
      have c5 := EJ.hc c4' f5 rfl
      refine ⟨_, rfl, (powCb (d := d + 1) SS_157 G11 h5.1 c5 h5.2.2.2.2.2.1 (s := wkF (pwG v (kS S i, p)) (nE v)) (by omega)).to ?_⟩
      rintro _ m6 ⟨w6, f6, rfl⟩
      have h6 := h5.st w6 f6 rfl
      refine ⟨_, rfl, ?_⟩
      rw [← ea]
      have J : lgA (fun i => sprA v (kS S i, p)) (i + 1) = sprA v (kS S i, p) → AW ad E0 μX6_leastGap (d + 6) (fun r m' => EJ v p S m0 m' ∧ r = some (.int (lgA (fun i => sprA v (kS S i, p)) (nS S)))) 66 [(0, .ref (ad 156)), (1, .ref (ad 3)), (3, .int (nI i)), (4, .int (sprA v (kS S i, p)))] [] m6 := fun e => by
        refine g_X6_leastGap_66 (d := d + 5) ?_
        rw [nI_1, ← e]
        exact ih (i + 1) _ (by omega) (h6.fd (by omega))
      refine ⟨fun c => J (lgA_0 ((nI_eq (a := i) (b := 0) (by omega) (by decide)).mp c)), fun c => ?_⟩
      have hi0 : ¬ i = 0 := fun z => c (by rw [z]; rfl)
      refine ⟨fun c2 => ?_, fun c2 => J (lgA_n hi0 c2)⟩
      rw [nI_1]
      have := ih (i + 1) m6 (by omega) h6
      rw [lgA_p (f := fun i => sprA v (kS S i, p)) hi0 c2] at this
      exact this
  exact v_X6_leastGap (d := d + 5) (L (nS S) 0 m (by omega) h)
/-! the calls, the class's side -/
def ECR : List Nat := [2, 9, 10, 11, 14, 58]
/-- what a search leaves behind -/
def eQ (m : Wm) (x : Int32) (r : Option Value) (m' : Wm) : Prop := WT m' ∧ Fx (RS [2, 9, 10, 11, 14, 58]) m m' ∧ SWx m' ∧ r = some (.int x)
theorem NJ.q (h : NJ m0 m) {T : Option SSt} {k : SSt → Int32} (e : T = none) : eQ m0 (orS T k) (some (.int (-3))) m := by
  subst e
  exact ⟨h.1, (Fx.rf (S := RS [2, 9, 10, 11, 14, 58])).tr h.2.1 (RS_sub rfl), h.2.2, rfl⟩
theorem EJ.q (h : EJ v p S m0 m) {T : Option SSt} {k : SSt → Int32} (e : T = some S) {y : Int32} (hy : y = k S) {R : List Nat} (w1 : WT m') (f : Fx (RS R) m m') (e1 : (R.all fun x => ([2, 9, 10, 11, 14, 58] : List Nat).elem x) = true) (e2 : R.elem 10 = false) : eQ m0 (orS T k) (some (.int y)) m' := by
  subst e
  subst hy
  exact ⟨w1, ((Fx.rf (S := RS [2, 9, 10, 11, 14, 58])).tr h.2.1 (RS_sub rfl)).tr f (RS_sub e1), h.2.2.1.sw.fx f e2, rfl⟩
theorem tellC (h : EJ v p S m0 m) {o : Option Nat} (ho : ∀ i, o = some i → i < nS S) : Ct ad μX11_tellWayTo (d + 1) [.ref (ad 0), .int (ixA o)] m (fun r m' => WT m' ∧ Fx (RS [9]) m m' ∧ r = some (.int (wyA S o))) := by
  have hN := h.2.2.1.n
  cases o with
  | none => exact v_X11_tellWayTo ⟨fun c => absurd c (by decide), fun _ => ⟨h.1, Fx.rf, rfl⟩⟩
  | some i =>
    have hi := ho i rfl
    obtain ⟨e65, dl⟩ := h.2.2.2.1 i hi
    have ti : (nI i).toInt = (i : Int) := nI_toInt (by omega)
    have td : (nI (dS S i)).toInt = (dS S i : Int) := nI_toInt (by omega)
    have z10 : (10 : Int32).toInt = 10 := rfl
    have V : vp_in (nI i) 3000 := nat_in (by omega) (by decide)
    refine v_X11_tellWayTo ⟨fun _ => (s_X6_fillWay (d := d) (x1 := nI i) h.1 (by omega) (by omega)).to ?_, fun c => absurd ((le_l 0 0 rfl (by decide) (by omega)).mpr (Nat.zero_le _)) c⟩
    rintro _ m1 ⟨w1, f1, rfl⟩
    have e1 : m1.1 165 i = nI (dS S i) := (f1.at (nRS (ρ := 58) rfl rfl)).trans e65
    refine ⟨rfl, V, V, ?_⟩
    show WT (uI m1 0 18 (if (10 : Int32) < (m1.1 165 (nI i).toNatClampNeg) then (10 : Int32) else (m1.1 165 (nI i).toNatClampNeg))) ∧ Fx (RS [9]) m (uI m1 0 18 (if (10 : Int32) < (m1.1 165 (nI i).toNatClampNeg) then (10 : Int32) else (m1.1 165 (nI i).toNatClampNeg))) ∧ some (Value.int (m1.1 165 (nI i).toNatClampNeg)) = some (.int (nI (dS S i)))
    rw [nI_clamp (by omega), e1]
    refine ⟨w1.t rfl ?_ ?_, f1.i rfl, rfl⟩
    · split <;> omega
    · split
      · omega
      · have := z_nlt ‹_›
        omega
def topA (v : EV) (x1 x2 x3 : Int32) (g : GS) : Int32 := if InD (nE v) x1 ∧ InD (aE v) x2 ∧ 0 ≤ x3.toInt ∧ x3.toInt ≤ 7 then orS (srG v g 3000) (fun S => wyA S (fstI (skB S x1.toNatClampNeg x2.toNatClampNeg x3) (nS S) 0)) else -1
def quickA (v : EV) (x1 : Int32) (g : GS) : Int32 := orS (srG v g 3000) (fun S => wyA S (fstI (stB v g.2 S x1) (nS S) 0))
def bestA (v : EV) (x1 x2 : Int32) (g : GS) : Int32 := if InD (nE v) x1 ∧ 0 ≤ x2.toInt ∧ x2.toInt ≤ 9 then orS (srG v g x2.toNatClampNeg) (fun S => gpA (fun i => pwG v (kS S i, g.2) x1.toNatClampNeg) (nS S)) else -1
def evenA (v : EV) (x1 : Int32) (g : GS) : Int32 := if (0 ≤ x1.toInt ∧ x1.toInt ≤ 9) ∧ ¬ nE v = 0 then orS (srG v g x1.toNatClampNeg) (fun S => lgA (fun i => sprA v (kS S i, g.2)) (nS S)) else -1
def allA (v : EV) (g : GS) : Int32 := orS (srG v g 3000) (fun S => nI (nS S))
theorem fst_in {b : Nat → Bool} : ∀ i, fstI b (nS S) 0 = some i → i < nS S := fun i h => by have := fstI_lt _ _ _ h; omega
theorem e3000 : (3000 : Int32) = nI 3000 := rfl
theorem nj_q {x : Int32} (w : WT m) (h : SWx m) : eQ m x (some (.int x)) m := ⟨w, Fx.rf, h, rfl⟩
theorem nj_e {x y : Int32} (w : WT m) (h : SWx m) (e : x = y) : eQ m x (some (.int y)) m := e ▸ nj_q w h
theorem e_topC {x1 x2 x3 : Int32} (w0 : WT m) (hW : SWx m) (hc : HC 21 m g) (hE : EC m v) (hz : ZB v g) : Ct ad μX11_top (d + 7) [.ref (ad 0), .int x1, .int x2, .int x3] m (eQ m (topA v x1 x2 x3 g)) := by
  have n8 := hE.2.2.1
  have no : ¬ (InD (nE v) x1 ∧ InD (aE v) x2 ∧ 0 ≤ x3.toInt ∧ x3.toInt ≤ 7) → eQ m (topA v x1 x2 x3 g) (some (.int (-1))) m := fun z => nj_e w0 hW (if_neg z)
  refine v_X11_top (d := d + 6) ((hasC (d := d + 6) (x := x1) hE.1 n8).to ?_)
  rintro _ m1 ⟨eq, v1, rfl, y1, y2⟩
  obtain rfl := eq.symm
  refine ⟨v1, rfl, fun c => no (fun z => y1 c z.1), fun c => (knowsC (d := d + 6) (x := x2) hE.2.1 (by have := hE.2.2.2.1; omega)).to ?_⟩
  rintro _ m1 ⟨eq, v2, rfl, y3, y4⟩
  obtain rfl := eq.symm
  refine ⟨v2, rfl, fun c => no (fun z => y3 c z.2.1), fun c2 => ⟨fun c3 => no (fun z => ?_), fun c3 => ⟨fun c4 => ?_, fun c4 => no (fun z => ?_)⟩⟩⟩
  · have := y_ltr (n := 0) rfl c3
    have := z.2.2.1
    omega
  · have h1 := y2 c
    have h2 := y4 c2
    have k3 := y_nltr (n := 0) rfl c3
    have k4 := y_ler (n := 7) rfl c4
    obtain ⟨s, hs, rfl⟩ := h1.of
    obtain ⟨a, ha, rfl⟩ := h2.of
    have h4 := hE.2.2.2.1
    have eA : topA v (nI s) (nI a) x3 g = orS (srG v g 3000) (fun S => wyA S (fstI (skB S s a x3) (nS S) 0)) := by
      unfold topA
      rw [if_pos ⟨h1, h2, k3, k4⟩, nI_clamp (by omega), nI_clamp (by omega)]
    rw [eA, e3000]
    refine (exploreC (d := d) w0 hW hc hE hz (wi := 3000) (by decide)).to ?_
    rintro r m2 (⟨S, e, rfl, h⟩ | ⟨e, rfl, h⟩)
    · refine ⟨1, rfl, fun _ => (firstC (d := d + 5) (x := x3) h.2.2.1 (s := s) (a := a) (by omega) (by omega)).to ?_, fun q => absurd q (by decide)⟩
      rintro _ m3 ⟨eq, rfl⟩
      obtain rfl := eq.symm
      refine ⟨_, rfl, (tellC (d := d + 5) h (o := fstI (skB S s a x3) (nS S) 0) fst_in).to ?_⟩
      rintro _ m4 ⟨w4, f4, rfl⟩
      exact ⟨_, rfl, h.q e rfl w4 f4 rfl rfl⟩
    · exact ⟨0, rfl, fun q => absurd rfl q, fun _ => h.q e⟩
  · have := y_nler (n := 7) rfl c4
    have := z.2.2.2
    omega
theorem e_quickC {x1 : Int32} (w0 : WT m) (hW : SWx m) (hc : HC 21 m g) (hE : EC m v) (hz : ZB v g) : Ct ad μX11_quick (d + 7) [.ref (ad 0), .int x1] m (eQ m (quickA v x1 g)) := by
  refine v_X11_quick (d := d + 6) ?_
  rw [e3000]
  refine (exploreC (d := d) w0 hW hc hE hz (wi := 3000) (by decide)).to ?_
  rintro r m2 (⟨S, e, rfl, h⟩ | ⟨e, rfl, h⟩)
  · refine ⟨1, rfl, fun _ => (strongC (d := d + 1) (x := x1) h).to ?_, fun q => absurd q (by decide)⟩
    rintro _ m3 ⟨h3, rfl⟩
    refine ⟨_, rfl, (tellC (d := d + 5) h3 (o := fstI (stB v g.2 S x1) (nS S) 0) fst_in).to ?_⟩
    rintro _ m4 ⟨w4, f4, rfl⟩
    exact ⟨_, rfl, h3.q e rfl w4 f4 rfl rfl⟩
  · exact ⟨0, rfl, fun q => absurd rfl q, fun _ => h.q e⟩
theorem e_bestC {x1 x2 : Int32} (w0 : WT m) (hW : SWx m) (hc : HC 21 m g) (hE : EC m v) (hz : ZB v g) : Ct ad μX11_best (d + 7) [.ref (ad 0), .int x1, .int x2] m (eQ m (bestA v x1 x2 g)) := by
  have n8 := hE.2.2.1
  have no : ¬ (InD (nE v) x1 ∧ 0 ≤ x2.toInt ∧ x2.toInt ≤ 9) → eQ m (bestA v x1 x2 g) (some (.int (-1))) m := fun z => nj_e w0 hW (if_neg z)
  refine v_X11_best (d := d + 6) ((hasC (d := d + 6) (x := x1) hE.1 n8).to ?_)
  rintro _ m1 ⟨eq, v1, rfl, y1, y2⟩
  obtain rfl := eq.symm
  refine ⟨v1, rfl, fun c => no (fun z => y1 c z.1), fun c => ⟨fun c3 => no (fun z => ?_), fun c3 => ⟨fun c4 => ?_, fun c4 => no (fun z => ?_)⟩⟩⟩
  · have := y_ltr (n := 0) rfl c3
    have := z.2.1
    omega
  · have h1 := y2 c
    have k3 := y_nltr (n := 0) rfl c3
    have k4 := y_ler (n := 9) rfl c4
    obtain ⟨s, hs, rfl⟩ := h1.of
    obtain ⟨n, hn, rfl⟩ := zn_of k3
    rw [nI_toInt hn] at k4
    have eA : bestA v (nI s) (nI n) g = orS (srG v g n) (fun S => gpA (fun i => pwG v (kS S i, g.2) s) (nS S)) := by
      unfold bestA
      rw [if_pos ⟨h1, by rw [nI_toInt hn]; omega, by rw [nI_toInt hn]; omega⟩, nI_clamp (n := n) hn, nI_clamp (n := s) (by omega)]
    rw [eA]
    refine (exploreC (d := d) w0 hW hc hE hz (wi := n) (by omega)).to ?_
    rintro r m2 (⟨S, e, rfl, h⟩ | ⟨e, rfl, h⟩)
    · refine ⟨1, rfl, fun _ => (greatC (d := d + 1) h (s := s) (by omega)).to ?_, fun q => absurd q (by decide)⟩
      rintro _ m3 ⟨h3, rfl⟩
      have t6 := h3.1.at (a := 156) (k := 6) rfl
      refine ⟨_, rfl, vpi (by omega) (by omega), (s_X11_tell h3.1).to ?_⟩
      rintro _ m4 ⟨w4, f4, rfl⟩
      exact ⟨rfl, h3.q e rfl w4 f4 rfl rfl⟩
    · exact ⟨0, rfl, fun q => absurd rfl q, fun _ => h.q e⟩
  · have := y_nler (n := 9) rfl c4
    have := z.2.2
    omega
theorem e_evenC {x1 : Int32} (w0 : WT m) (hW : SWx m) (hc : HC 21 m g) (hE : EC m v) (hz : ZB v g) : Ct ad μX11_even (d + 7) [.ref (ad 0), .int x1] m (eQ m (evenA v x1 g)) := by
  have n8 := hE.2.2.1
  have no : ¬ ((0 ≤ x1.toInt ∧ x1.toInt ≤ 9) ∧ ¬ nE v = 0) → eQ m (evenA v x1 g) (some (.int (-1))) m := fun z => nj_e w0 hW (if_neg z)
  refine v_X11_even (d := d + 6) ⟨fun c3 => no (fun z => ?_), fun c3 => ⟨fun c4 => no (fun z => ?_), fun c4 => ⟨fun c5 => ?_, fun c5 => no (fun z => ?_)⟩⟩⟩
  · have := y_ltr (n := 0) rfl c3
    have := z.1.1
    omega
  · have := y_ltl (n := 9) rfl c4
    have := z.1.2
    omega
  · have k3 := y_nltr (n := 0) rfl c3
    have k4 := y_nltl (n := 9) rfl c4
    have hn0 : ¬ nE v = 0 := fun z => c5 (by rw [hE.1, z]; rfl)
    obtain ⟨n, hn, rfl⟩ := zn_of k3
    rw [nI_toInt hn] at k4
    have eA : evenA v (nI n) g = orS (srG v g n) (fun S => lgA (fun i => sprA v (kS S i, g.2)) (nS S)) := by
      unfold evenA
      rw [if_pos ⟨⟨by rw [nI_toInt hn]; omega, by rw [nI_toInt hn]; omega⟩, hn0⟩, nI_clamp hn]
    rw [eA]
    refine (exploreC (d := d) w0 hW hc hE hz (wi := n) (by omega)).to ?_
    rintro r m2 (⟨S, e, rfl, h⟩ | ⟨e, rfl, h⟩)
    · refine ⟨1, rfl, fun _ => (gapC (d := d) h (by omega)).to ?_, fun q => absurd q (by decide)⟩
      rintro _ m3 ⟨h3, rfl⟩
      have t6 := h3.1.at (a := 156) (k := 6) rfl
      refine ⟨_, rfl, vpi (by omega) (by omega), (s_X11_tell h3.1).to ?_⟩
      rintro _ m4 ⟨w4, f4, rfl⟩
      exact ⟨rfl, h3.q e rfl w4 f4 rfl rfl⟩
    · exact ⟨0, rfl, fun q => absurd rfl q, fun _ => h.q e⟩
  · exact z.2 ((nI_eq (a := nE v) (b := 0) (by omega) (by decide)).mp (hE.1.symm.trans c5))
theorem e_allC (w0 : WT m) (hW : SWx m) (hc : HC 21 m g) (hE : EC m v) (hz : ZB v g) : Ct ad μX11_all (d + 7) [.ref (ad 0)] m (eQ m (allA v g)) := by
  refine v_X11_all (d := d + 6) ?_
  rw [e3000]
  refine (exploreC (d := d) w0 hW hc hE hz (wi := 3000) (by decide)).to ?_
  rintro r m2 (⟨S, e, rfl, h⟩ | ⟨e, rfl, h⟩)
  · refine ⟨1, rfl, fun _ => ?_, fun q => absurd q (by decide)⟩
    have hN := h.2.2.1.n
    have L : ∀ k i (m1 : Wm) (x1 x2 x3 : Int32), i + k = nS S → WT m1 → Fx (RS []) m2 m1 → AW ad E0 μX11_all (d + 7) (eQ m (allA v g)) 35 [(0, .ref (ad 0)), (1, .int x1), (2, .int x2), (3, .int x3), (4, .int (nI i))] [] m1 := by
      intro k
      induction k with
      | zero =>
        intro i m1 x1 x2 x3 hi w1 f1
        obtain rfl : i = nS S := hi
        have c4 : m1.1 151 4 = nI (nS S) := (f1.at (nRS (ρ := 10) rfl rfl)).trans h.2.2.1.c4
        refine g_X11_all_35 (d := d + 6) ⟨fun _ => (s_X11_tell__ w1).to ?_, fun c => absurd (by rw [c4]; exact (nI_leI (by omega) (by omega)).mpr (Nat.le_refl _)) c⟩
        rintro _ m3 ⟨w3, f3, rfl⟩
        have e4 : m3.1 151 4 = nI (nS S) := (f3.at (nRS (ρ := 10) rfl rfl)).trans c4
        refine ⟨rfl, ?_⟩
        rw [e4]
        exact h.q e rfl w3 ((Fx.rf (S := RS [9])).tr f1 (RS_sub rfl) |>.tr f3 (RS_sub rfl)) rfl rfl
      | succ k ih =>
        intro i m1 x1 x2 x3 hi w1 f1
        have c4 : m1.1 151 4 = nI (nS S) := (f1.at (nRS (ρ := 10) rfl rfl)).trans h.2.2.1.c4
        have ti : (nI i).toInt = (i : Int) := nI_toInt (by omega)
        refine g_X11_all_35 (d := d + 6) ⟨fun c => absurd (by rw [c4] at c; exact (nI_leI (by omega) (by omega)).mp c) (by omega), fun _ => (s_X9_total w1 (by omega) (by omega)).to ?_⟩
        rintro _ m3 ⟨w3, f3, v3, rfl⟩
        refine ⟨v3, rfl, nat_in (by omega) (by decide), ?_⟩
        rw [nI_1]
        exact ih (i + 1) m3 _ _ _ (by omega) w3 (f1.tr f3 (RS_sub rfl))
    exact L (nS S) 0 m2 _ _ _ (by omega) h.1 Fx.rf
  · exact ⟨0, rfl, fun q => absurd rfl q, fun _ => h.q e⟩
end ENC
section ENM
variable {ad : Nat → Nat} {d t a w b s : Nat} {m m' m0 : Wm} {g : GS} {v : EV} {p : PSt} {S : SSt} {x : Int32}
theorem tellWayX {d : Nat} {x1 : Int32} (w : WT m) (s : ST m) (i1 : 0 ≤ x1.toInt) (i2 : x1.toInt < (m.1 187 43).toInt) : Ct ad μX12_tellWay (d + 1) [.ref (ad 187), .int x1] m (fun r m' => WT m' ∧ Fx (RS [26, 38]) m m' ∧ r = some (.int (m.1 207 x1.toNatClampNeg))) := by
  have z0 : (0 : Int32).toInt = 0 := rfl
  have zn1 : (-1 : Int32).toInt = -1 := rfl
  have L2 : ∀ n : Nat, ∀ (m1 : Wm) (x2 : Int32) (k : Nat), k + n = 10 → WT m1 → Fx (RS [26, 38]) m m1 → (m1.1 187 16).toInt = (k : Int) → AW ad E0 μX12_tellWay (d + 1) (fun r m' => WT m' ∧ Fx (RS [26, 38]) m m' ∧ r = some (.int x2)) 53 [(0, .ref (ad 187)), (2, .int x2), (4, .int (nI k))] [] m1 := by
    intro n
    induction n with
    | zero =>
      intro m1 x2 k hk w1 f1 e1
      exact g_X12_tellWay_53 ⟨fun _ => ⟨w1, f1, rfl⟩, fun _ => ⟨fun _ => ⟨w1, f1, rfl⟩, fun c => absurd ((le_l 10 10 rfl (by omega) (by omega)).mpr (by omega)) c⟩⟩
    | succ n ih =>
      intro m1 x2 k hk w1 f1 e1
      refine g_X12_tellWay_53 ⟨fun _ => ⟨w1, f1, rfl⟩, fun _ => ⟨fun _ => ⟨w1, f1, rfl⟩, fun c => ⟨nat_in (by omega) (by decide), (s_X12_tell w1 (by omega)).to ?_⟩⟩⟩
      rintro _ m2 ⟨w2, f2, rfl, p2⟩
      refine ⟨rfl, ?_⟩
      rw [nI_1]
      exact ih m2 x2 (k + 1) (by omega) w2 (f1.tr f2 (RS_sub rfl)) (by omega)
  have L1 : ∀ j : Nat, ∀ (m1 : Wm) (x2 x3 x4 : Int32), x4.toInt = (j : Int) - 1 → j ≤ 3000 → WT m1 → Fx (RS [26, 38]) m m1 → ST m1 → (0 < j → 0 ≤ x3.toInt ∧ x3.toInt < (m1.1 187 43).toInt ∧ (m1.1 207 x3.toNatClampNeg).toInt = (j : Int)) → AW ad E0 μX12_tellWay (d + 1) (fun r m' => WT m' ∧ Fx (RS [26, 38]) m m' ∧ r = some (.int x2)) 14 [(0, .ref (ad 187)), (2, .int x2), (3, .int x3), (4, .int x4)] [] m1 := by
    intro j
    induction j with
    | zero =>
      intro m1 x2 x3 x4 e4 hj w1 f1 s1 h
      refine g_X12_tellWay_14 ⟨fun _ => ?_, fun c => absurd (z_nlt c) (by omega)⟩
      exact L2 10 _ x2 0 (by decide) (w1.t rfl (by decide) (by decide)) (f1.i rfl) rfl
    | succ j ih =>
      intro m1 x2 x3 x4 e4 hj w1 f1 s1 h
      have t43 := w1.at (a := 187) (k := 43) rfl
      obtain ⟨h1, h2, h3⟩ := h (by omega)
      refine g_X12_tellWay_14 ⟨fun c => absurd (z_lt c) (by omega), fun _ => ?_⟩
      refine ⟨vpi (by omega) (by omega), vpi (by omega) (by omega), vpi (by omega) (by omega), ?_⟩
      obtain ⟨k, hk, rfl⟩ := zn_of h1
      rw [nI_clamp hk] at h3 ⊢
      rw [nI_toInt hk] at h1 h2
      have w2 : WT (uI m1 212 x4.toNatClampNeg (m1.1 209 k)) := w1.n rfl
      have s2 : ST (uI m1 212 x4.toNatClampNeg (m1.1 209 k)) := s1.fx (S := [38]) ((Fx.rf (m := m1)).i rfl) rfl
      rcases s1.2.2 k h2 with q | ⟨p, q1, q2, q3⟩
      · omega
      · refine ih _ _ _ _ ?_ (by omega) w2 (f1.i rfl) s2 (fun hj0 => ?_)
        · rw [ti_addc (c := -1) zn1 (by omega)]
          omega
        · show 0 ≤ (m1.1 208 k).toInt ∧ (m1.1 208 k).toInt < (m1.1 187 43).toInt ∧ (m1.1 207 (m1.1 208 k).toNatClampNeg).toInt = _
          rw [q1, nI_clamp (by omega), nI_toInt (by omega)]
          omega
  have t43 := w.at (a := 187) (k := 43) rfl
  refine v_X12_tellWay ⟨vpi (by omega) (by omega), ?_⟩
  obtain ⟨k, hk, rfl⟩ := zn_of i1
  rw [nI_clamp hk]
  rw [nI_toInt hk] at i1 i2
  have t207 := w.at (a := 207) (k := k) (lo := 0) (hi := (k : Int)) rfl
  have t1 := ti_subc (x := m.1 207 k) (y := 1) (c := 1) rfl (by omega)
  refine L1 (m.1 207 k).toInt.toNat m _ _ _ (by omega) (by omega) w Fx.rf s (fun hj => ?_)
  rw [nI_clamp hk, nI_toInt hk]
  omega
/-- between two states looked at; what lies aside is the league -/
def MV (v : EV) (g : GS) (S : SSt) (m0 m : Wm) : Prop := WT m ∧ Fx (RS [20, 22, 24, 26, 28, 33, 34, 35, 38, 49]) m0 m ∧ ST m ∧ SM m S ∧ HL (nE v) 204 0 m g ∧ EM m v ∧ ZI v S
def mQ (v : EV) (g : GS) (m : Wm) (x : Int32) (r : Option Value) (m' : Wm) : Prop := WT m' ∧ Fx (RS [20, 22, 24, 26, 28, 33, 34, 35, 38, 49]) m m' ∧ HM (nE v) m' g ∧ r = some (.int x)
theorem MV.st {R : List Nat} (h : MV v g S m0 m) (w1 : WT m') (f : Fx (RS R) m m') (e : (R.all fun x => ([20, 22, 24, 26, 28, 33, 38, 49] : List Nat).elem x) = true) : MV v g S m0 m' := by
  obtain ⟨w0, f0, s0, d0, l0, e0, z0⟩ := h
  have f1 : Fx (RS [20, 22, 24, 26, 28, 33, 38, 49]) m m' := (Fx.rf (S := RS [20, 22, 24, 26, 28, 33, 38, 49])).tr f (RS_sub e)
  exact ⟨w1, f0.tr f1 (RS_sub rfl), s0.fx f1 rfl, d0.fx f1 rfl, l0.fx f1 (fun _ => rfl) rfl, e0.fx f1 rfl, z0⟩
/-- a state's skills, with points and raised as they are -/
theorem loadV (h : MV v g S m0 m) (hp : ∃ f, HX (nE v) m (f, g.2)) {i : Nat} (hi : i < nS S) : Ct ad μX12_load d [.ref (ad 187), .int (nI i)] m (fun r m' => r = none ∧ MV v g S m0 m' ∧ HX (nE v) m' (kS S i, g.2)) := by
  obtain ⟨a1, a2, a3⟩ := h.2.2.2.1.2.1 i hi
  have hN := h.2.2.2.1.n
  obtain ⟨f, hx⟩ := hp
  refine (loadM (d := d) h.1 a1 a2 a3 (by omega)).to ?_
  rintro _ m2 ⟨rfl, w2, f2, o2, c2⟩
  exact ⟨rfl, h.st w2 f2 rfl, c2, fun k hk => (o2 190 k (by decide)).trans (hx.2.1 k hk), fun k hk => (o2 191 k (by decide)).trans (hx.2.2.1 k hk), fun k hk => (o2 192 k (by decide)).trans (hx.2.2.2.1 k hk), (o2 187 8 (by decide)).trans hx.2.2.2.2⟩
theorem hx_of (hm : HM (nE v) m g) : ∃ f, HX (nE v) m (f, g.2) := ⟨m.1 188, fun _ _ => rfl, hm.2⟩
theorem bringV (h : MV v g S m0 m) : Ct ad μX12_bring d [.ref (ad 187), .ref (ad 204), .int (0 : Int32)] m (fun r m' => r = none ∧ MV v g S m0 m' ∧ HM (nE v) m' g) := by
  refine (bringH (x := 0) (na := 57) rfl (by decide) (by decide) h.1 h.2.2.2.2.1 (by decide)).to ?_
  rintro _ m2 ⟨rfl, w2, f2, H2⟩
  exact ⟨rfl, h.st w2 f2 rfl, H2⟩
/-- the first act of each of these calls -/
theorem mv_0 {m0 m1 : Wm} (f0 : Fx (RS [20]) m0 m1) {T : Option SSt} {r : Option Value} (q : MSq v g T m1 r m) : (∃ S, T = some S ∧ r = some (.int 1) ∧ MV v g S m0 m ∧ HM (nE v) m g) ∨ (T = none ∧ r = some (.int 0) ∧ mQ v g m0 (-3) (some (.int (-3))) m) := by
  obtain ⟨w1, f1, hm, hl, em, q⟩ := q
  have F : Fx (RS [20, 22, 24, 26, 28, 33, 34, 35, 38, 49]) m0 m := ((Fx.rf (S := RS [20, 22, 24, 26, 28, 33, 34, 35, 38, 49])).tr f0 (RS_sub rfl)).tr f1 (RS_sub rfl)
  rcases q with ⟨S, e, rfl, sm, s, z⟩ | ⟨e, rfl⟩
  · exact Or.inl ⟨S, e, rfl, ⟨w1, F, s, sm, hl, em, z⟩, hm⟩
  · exact Or.inr ⟨e, rfl, w1, F, hm, rfl⟩
theorem mQ.o {T : Option SSt} {k : SSt → Int32} (h : mQ v g m0 (-3) (some (.int (-3))) m) (e : T = none) : mQ v g m0 (orS T k) (some (.int (-3))) m := by
  subst e
  exact h
theorem MV.q {T : Option SSt} {k : SSt → Int32} (h : MV v g S m0 m) (hm : HM (nE v) m g) (e : T = some S) {y : Int32} (hy : y = k S) : mQ v g m0 (orS T k) (some (.int y)) m := by
  subst e
  subst hy
  exact ⟨h.1, h.2.1, hm, rfl⟩
theorem twX (h : MV v g S m0 m) (hm : HM (nE v) m g) {i : Nat} (hi : i < nS S) : Ct ad μX12_tellWay (d + 1) [.ref (ad 187), .int (nI i)] m (fun r m' => MV v g S m0 m' ∧ HM (nE v) m' g ∧ r = some (.int (nI (dS S i)))) := by
  have hN := h.2.2.2.1.n
  have ti : (nI i).toInt = (i : Int) := nI_toInt (by omega)
  have tn : (nI (nS S)).toInt = (nS S : Int) := nI_toInt (by omega)
  refine (tellWayX (d := d) (x1 := nI i) h.1 h.2.2.1 (by omega) (by rw [h.2.2.2.1.c43]; omega)).to ?_
  rintro _ m1 ⟨w1, f1, rfl⟩
  refine ⟨h.st w1 f1 rfl, hm.fx f1 rfl rfl, ?_⟩
  rw [nI_clamp (by omega), (h.2.2.2.1.2.2 i hi).1]
theorem e_topM {x1 x2 x3 : Int32} (w0 : WT m) (hm : HM (nE v) m g) (hE : EM m v) (hz : ZB v g) : Ct ad μX12_top (d + 178) [.ref (ad 187), .int x1, .int x2, .int x3] m (mQ v g m (topA v x1 x2 x3 g)) := by
  have n8 := hE.2.2.1
  have w1 : WT (uI m 187 17 0) := w0.n rfl
  have f1 : Fx (RS [20]) m (uI m 187 17 0) := Fx.i Fx.rf rfl
  have hm1 : HM (nE v) (uI m 187 17 0) g := hm
  have em1 : EM (uI m 187 17 0) v := hE
  refine v_X12_top (d := d + 177) ?_
  generalize uI m 187 17 0 = m1 at w1 f1 hm1 em1 ⊢
  have no : ¬ (InD (nE v) x1 ∧ InD (aE v) x2 ∧ 0 ≤ x3.toInt ∧ x3.toInt ≤ 7) → mQ v g m (topA v x1 x2 x3 g) (some (.int (-1))) m1 := fun z => by
    have e : topA v x1 x2 x3 g = -1 := if_neg z
    rw [e]
    exact ⟨w1, (Fx.rf (S := RS [20, 22, 24, 26, 28, 33, 34, 35, 38, 49])).tr f1 (RS_sub rfl), hm1, rfl⟩
  refine (sideM (d := d + 176) (x := x1) em1.1 n8).to ?_
  rintro _ m2 ⟨eq, v1, rfl, y1, y2⟩
  obtain rfl := eq.symm
  refine ⟨v1, rfl, fun c => no (fun z => y1 c z.1), fun c => (knowM (d := d + 176) (x := x2) em1.2.1 (by have := em1.2.2.2.1; omega)).to ?_⟩
  rintro _ m2 ⟨eq, v2, rfl, y3, y4⟩
  obtain rfl := eq.symm
  refine ⟨v2, rfl, fun c => no (fun z => y3 c z.2.1), fun c2 => (inM (d := d + 177) (x := x3) (lo := 0) (hi := 7) rfl rfl).to ?_⟩
  rintro _ m2 ⟨eq, v3, rfl, y5, y6⟩
  obtain rfl := eq.symm
  have z0 : (0 : Int32).toInt = 0 := rfl
  have z7 : (7 : Int32).toInt = 7 := rfl
  refine ⟨v3, rfl, fun c3 => ?_, fun c3 => no (fun z => y5 c3 ⟨by omega, by omega⟩)⟩
  have h1 := y2 c
  have h2 := y4 c2
  have h3 := y6 c3
  obtain ⟨s, hs, rfl⟩ := h1.of
  obtain ⟨a, ha, rfl⟩ := h2.of
  have h4 := em1.2.2.2.1
  have eA : topA v (nI s) (nI a) x3 g = orS (srG v g 3000) (fun S => wyA S (fstI (skB S s a x3) (nS S) 0)) := by
    unfold topA
    rw [if_pos ⟨h1, h2, by omega, by omega⟩, nI_clamp (by omega), nI_clamp (by omega)]
  rw [eA, e3000]
  refine (findStatesX (d := d) w1 hm1 em1 hz (wi := 3000) (by decide)).to ?_
  intro r m2 q
  rcases mv_0 f1 q with ⟨S, e, rfl, h, hm2⟩ | ⟨e, rfl, h⟩
  · refine ⟨1, rfl, fun _ => ?_, fun q => absurd q (by decide)⟩
    have hN := h.2.2.2.1.n
    have L : ∀ k i, i + k = nS S → fstI (skB S s a x3) (nS S) 0 = fstI (skB S s a x3) k i → AW ad E0 μX12_top (d + 178) (mQ v g m (orS (srG v g 3000) (fun S => wyA S (fstI (skB S s a x3) (nS S) 0)))) 51 [(0, .ref (ad 187)), (1, .int (nI s)), (2, .int (nI a)), (3, .int x3), (4, .int (nI i))] [] m2 := by
      have c43 := h.2.2.2.1.c43
      intro k
      induction k with
      | zero =>
        intro i hi hf
        obtain rfl : i = nS S := hi
        exact g_X12_top_51 (d := d + 177) ⟨fun _ => h.q hm2 e (by show (-2 : Int32) = wyA S (fstI (skB S s a x3) (nS S) 0); rw [hf]; rfl), fun c => absurd (by rw [c43]; exact (nI_leI (by omega) (by omega)).mpr (Nat.le_refl _)) c⟩
      | succ k ih =>
        intro i hi hf
        obtain ⟨a1, a2, a3⟩ := h.2.2.2.1.2.1 i (by omega)
        refine g_X12_top_51 (d := d + 177) ⟨fun c => absurd (by rw [c43] at c; exact (nI_leI (by omega) (by omega)).mp c) (by omega), fun _ => (getM (d := d + 177) a1 a2 a3 (by omega) (s := s) (a := a) (by omega) (by omega)).to ?_⟩
        rintro _ m3 ⟨eq, rfl⟩
        obtain rfl := eq.symm
        refine ⟨_, rfl, fun c => ?_, fun c => ?_⟩
        · have e1 : skB S s a x3 i = false := by unfold skB; rw [decide_eq_true c]; rfl
          rw [fst_n e1] at hf
          rw [nI_1]
          exact ih (i + 1) (by omega) hf
        · have e1 : skB S s a x3 i = true := by unfold skB; rw [decide_eq_false c]; rfl
          rw [fst_y e1] at hf
          refine (twX (d := d + 176) h hm2 (i := i) (by omega)).to ?_
          rintro _ m4 ⟨h4, hm4, rfl⟩
          exact ⟨_, rfl, h4.q hm4 e (by show nI (dS S i) = wyA S (fstI (skB S s a x3) (nS S) 0); rw [hf]; rfl)⟩
    exact L (nS S) 0 (by omega) rfl
  · exact ⟨0, rfl, fun q => absurd rfl q, fun _ => h.o e⟩
theorem e_quickM {x1 : Int32} (w0 : WT m) (hm : HM (nE v) m g) (hE : EM m v) (hz : ZB v g) : Ct ad μX12_quick (d + 178) [.ref (ad 187), .int x1] m (mQ v g m (quickA v x1 g)) := by
  have n8 := hE.2.2.1
  have w1 : WT (uI m 187 17 0) := w0.n rfl
  have f1 : Fx (RS [20]) m (uI m 187 17 0) := Fx.i Fx.rf rfl
  have hm1 : HM (nE v) (uI m 187 17 0) g := hm
  have em1 : EM (uI m 187 17 0) v := hE
  refine v_X12_quick (d := d + 177) ?_
  generalize uI m 187 17 0 = m1 at w1 f1 hm1 em1 ⊢
  rw [e3000]
  refine (findStatesX (d := d) w1 hm1 em1 hz (wi := 3000) (by decide)).to ?_
  intro r m2 q
  rcases mv_0 f1 q with ⟨S, e, rfl, h, hm2⟩ | ⟨e, rfl, h⟩
  · refine ⟨1, rfl, fun _ => ?_, fun q => absurd q (by decide)⟩
    have hN := h.2.2.2.1.n
    have nn : ∀ i, i ≤ 3000 → ¬ nI i = (-1 : Int32) := fun i hi q => by
      have := congrArg Int32.toInt q
      rw [nI_toInt (by omega)] at this
      have z1 : (-1 : Int32).toInt = -1 := rfl
      omega
    have E100 : ∀ (o : Option Nat) (m3 : Wm), fstI (stB v g.2 S x1) (nS S) 0 = o → MV v g S m m3 → AW ad E0 μX12_quick (d + 178) (mQ v g m (quickA v x1 g)) 100 [(0, .ref (ad 187)), (2, .int (ixA o))] [] m3 := by
      intro o m3 ho h3
      refine g_X12_quick_100 (d := d + 177) ((bringV (d := d + 177) h3).to ?_)
      rintro _ m4 ⟨rfl, h4, hm4⟩
      refine ⟨rfl, fun c => ?_, fun c => ?_⟩
      · cases o with
        | none => exact absurd rfl c
        | some i =>
          refine (twX (d := d + 176) h4 hm4 (i := i) (fst_in i ho)).to ?_
          rintro _ m5 ⟨h5, hm5, rfl⟩
          exact ⟨_, rfl, h5.q hm5 e (by show nI (dS S i) = wyA S (fstI (stB v g.2 S x1) (nS S) 0); rw [ho]; rfl)⟩
      · cases o with
        | none => exact h4.q hm4 e (by show (-2 : Int32) = wyA S (fstI (stB v g.2 S x1) (nS S) 0); rw [ho]; rfl)
        | some i => exact absurd c (nn i (by have := fst_in i ho; omega))
    have L : ∀ k i (m3 : Wm), i + k = nS S → fstI (stB v g.2 S x1) (nS S) 0 = fstI (stB v g.2 S x1) k i → MV v g S m m3 → (∃ f, HX (nE v) m3 (f, g.2)) → AW ad E0 μX12_quick (d + 178) (mQ v g m (quickA v x1 g)) 22 [(0, .ref (ad 187)), (1, .int x1), (2, .int (-1 : Int32)), (3, .int (nI i))] [] m3 := by
      intro k
      induction k with
      | zero =>
        intro i m3 hi hf h3 hp
        obtain rfl : i = nS S := hi
        have c43 := h3.2.2.2.1.c43
        exact g_X12_quick_22 (d := d + 177) ⟨fun _ => E100 none m3 hf h3, fun c => absurd (by rw [c43]; exact (nI_leI (by omega) (by omega)).mpr (Nat.le_refl _)) c⟩
      | succ k ih =>
        intro i m3 hi hf h3 hp
        have c43 := h3.2.2.2.1.c43
        refine g_X12_quick_22 (d := d + 177) ⟨fun c => absurd (by rw [c43] at c; exact (nI_leI (by omega) (by omega)).mp c) (by omega), fun _ => ⟨fun c => absurd rfl c, fun _ => (loadV (d := d + 177) h3 hp (i := i) (by omega)).to ?_⟩⟩
        rintro _ m4 ⟨rfl, h4, x4⟩
        refine ⟨rfl, ?_⟩
        have FIN : ∀ (q : Bool) (m5 : Wm), MV v g S m m5 → (∃ f, HX (nE v) m5 (f, g.2)) → stB v g.2 S x1 i = q → AW ad E0 μX12_quick (d + 178) (mQ v g m (quickA v x1 g)) 83 [(0, .ref (ad 187)), (1, .int x1), (3, .int (nI i)), (4, .int (if q = true then (1 : Int32) else 0))] [] m5 := by
          intro q m5 h5 hp5 eq
          cases q with
          | true =>
            rw [fst_y eq] at hf
            refine g_X12_quick_83 (d := d + 177) ⟨fun c => absurd c (by decide), fun _ => ?_⟩
            rw [nI_1]
            have g22 : ∀ y : Int32, AW ad E0 μX12_quick (d + 178) (mQ v g m (quickA v x1 g)) 22 [(0, .ref (ad 187)), (1, .int x1), (2, .int (nI i)), (3, .int y)] [] m5 := fun y => g_X12_quick_22 (d := d + 177) ⟨fun _ => E100 (some i) m5 hf h5, fun _ => ⟨fun _ => E100 (some i) m5 hf h5, fun c => absurd c (nn i (by omega))⟩⟩
            exact g22 _
          | false =>
            rw [fst_n eq] at hf
            refine g_X12_quick_83 (d := d + 177) ⟨fun _ => ?_, fun c => absurd rfl c⟩
            rw [nI_1]
            exact ih (i + 1) m5 (by omega) hf h5 hp5
        have M : ∀ j s (m5 : Wm), s + j = nE v → MV v g S m m5 → HX (nE v) m5 (kS S i, g.2) → stB v g.2 S x1 i = alB (pwG v (kS S i, g.2)) x1 j s → AW ad E0 μX12_quick (d + 178) (mQ v g m (quickA v x1 g)) 46 [(0, .ref (ad 187)), (1, .int x1), (3, .int (nI i)), (4, .int (1 : Int32)), (5, .int (nI s))] [] m5 := by
          intro j
          induction j with
          | zero =>
            intro s m5 hs h5 x5 eq
            obtain rfl : s = nE v := hs
            have e1 := h5.2.2.2.2.2.1.1
            exact g_X12_quick_46 (d := d + 177) ⟨fun _ => FIN true m5 h5 ⟨_, x5⟩ eq, fun c => absurd (by rw [e1]; exact (nI_leI (by omega) (by omega)).mpr (Nat.le_refl _)) c⟩
          | succ j ihj =>
            intro s m5 hs h5 x5 eq
            have em := h5.2.2.2.2.2.1
            have e1 := em.1
            have eq' : stB v g.2 S x1 i = if pwG v (kS S i, g.2) s < x1 then false else alB (pwG v (kS S i, g.2)) x1 j (s + 1) := eq
            refine g_X12_quick_46 (d := d + 177) ⟨fun c => absurd (by rw [e1] at c; exact (nI_leI (by omega) (by omega)).mp c) (by omega), fun _ => ⟨fun c => absurd c (by decide), fun _ => (powerM (d := d + 9) h5.1 (x5.hm n8) em (s := s) (by omega)).to ?_⟩⟩
            rintro _ m6 ⟨w6, f6, rfl⟩
            have h6 := h5.st w6 f6 rfl
            have x6 := x5.fx f6 rfl rfl
            refine ⟨_, rfl, fun c => ?_, fun c => ?_⟩
            · rw [if_pos c] at eq'
              have F := FIN false m6 h6 ⟨_, x6⟩ eq'
              exact g_X12_quick_46 (d := d + 177) ⟨fun _ => F, fun _ => ⟨fun _ => F, fun z => absurd rfl z⟩⟩
            · rw [if_neg c] at eq'
              rw [nI_1]
              exact ihj (s + 1) m6 (by omega) h6 x6 eq'
        exact M (nE v) 0 m4 (by omega) h4 x4 rfl
    exact L (nS S) 0 m2 (by omega) rfl h (hx_of hm2)
  · exact ⟨0, rfl, fun q => absurd rfl q, fun _ => h.o e⟩
theorem e_bestM {x1 x2 : Int32} (w0 : WT m) (hm : HM (nE v) m g) (hE : EM m v) (hz : ZB v g) : Ct ad μX12_best (d + 178) [.ref (ad 187), .int x1, .int x2] m (mQ v g m (bestA v x1 x2 g)) := by
  have n8 := hE.2.2.1
  have w1 : WT (uI m 187 17 0) := w0.n rfl
  have f1 : Fx (RS [20]) m (uI m 187 17 0) := Fx.i Fx.rf rfl
  have hm1 : HM (nE v) (uI m 187 17 0) g := hm
  have em1 : EM (uI m 187 17 0) v := hE
  refine v_X12_best (d := d + 177) ?_
  generalize uI m 187 17 0 = m1 at w1 f1 hm1 em1 ⊢
  have no : ¬ (InD (nE v) x1 ∧ 0 ≤ x2.toInt ∧ x2.toInt ≤ 9) → mQ v g m (bestA v x1 x2 g) (some (.int (-1))) m1 := fun z => by
    have e : bestA v x1 x2 g = -1 := if_neg z
    rw [e]
    exact ⟨w1, (Fx.rf (S := RS [20, 22, 24, 26, 28, 33, 34, 35, 38, 49])).tr f1 (RS_sub rfl), hm1, rfl⟩
  refine (sideM (d := d + 176) (x := x1) em1.1 n8).to ?_
  rintro _ m2 ⟨eq, v1, rfl, y1, y2⟩
  obtain rfl := eq.symm
  refine ⟨v1, rfl, fun c => no (fun z => y1 c z.1), fun c => (inM (d := d + 177) (x := x2) (lo := 0) (hi := 9) rfl rfl).to ?_⟩
  rintro _ m2 ⟨eq, v3, rfl, y5, y6⟩
  obtain rfl := eq.symm
  have z0 : (0 : Int32).toInt = 0 := rfl
  have z9 : (9 : Int32).toInt = 9 := rfl
  refine ⟨v3, rfl, fun c3 => ?_, fun c3 => no (fun z => y5 c3 ⟨by omega, by omega⟩)⟩
  have h1 := y2 c
  have h3 := y6 c3
  obtain ⟨s, hs, rfl⟩ := h1.of
  obtain ⟨n, hn, rfl⟩ := zn_of (x := x2) (by omega)
  rw [nI_toInt hn] at h3
  have eA : bestA v (nI s) (nI n) g = orS (srG v g n) (fun S => gpA (fun i => pwG v (kS S i, g.2) s) (nS S)) := by
    unfold bestA
    rw [if_pos ⟨h1, by rw [nI_toInt hn]; omega, by rw [nI_toInt hn]; omega⟩, nI_clamp (n := n) hn, nI_clamp (n := s) (by omega)]
  rw [eA]
  refine (findStatesX (d := d) w1 hm1 em1 hz (wi := n) (by omega)).to ?_
  intro r m2 q
  rcases mv_0 f1 q with ⟨S, e, rfl, h, hm2⟩ | ⟨e, rfl, h⟩
  · refine ⟨1, rfl, fun _ => ?_, fun q => absurd q (by decide)⟩
    have hN := h.2.2.2.1.n
    have L : ∀ k i (m3 : Wm) (x3 : Nat), i + k = nS S → x3 < 3000 → MV v g S m m3 → (∃ f, HX (nE v) m3 (f, g.2)) → AW ad E0 μX12_best (d + 178) (mQ v g m (orS (srG v g n) (fun S => gpA (fun i => pwG v (kS S i, g.2) s) (nS S)))) 46 [(0, .ref (ad 187)), (1, .int (nI s)), (3, .int (nI x3)), (4, .int (gpA (fun i => pwG v (kS S i, g.2) s) i)), (5, .int (nI i))] [] m3 := by
      intro k
      induction k with
      | zero =>
        intro i m3 x3 hi h3x h3 hp
        obtain rfl : i = nS S := hi
        have c43 := h3.2.2.2.1.c43
        refine g_X12_best_46 (d := d + 177) ⟨fun _ => (bringV (d := d + 177) h3).to ?_, fun c => absurd (by rw [c43]; exact (nI_leI (by omega) (by omega)).mpr (Nat.le_refl _)) c⟩
        rintro _ m4 ⟨rfl, h4, hm4⟩
        have w5 : WT (uI m4 187 16 (0 : Int32)) := h4.1.t rfl (by decide) (by decide)
        have f5 : Fx (RS [26]) m4 (uI m4 187 16 (0 : Int32)) := Fx.i Fx.rf rfl
        have h5 := h4.st w5 f5 rfl
        have hm5 : HM (nE v) (uI m4 187 16 (0 : Int32)) g := hm4
        refine ⟨rfl, nat_in h3x (by decide), (s_X12_tell w5 (by rw [u_eq]; decide)).to ?_⟩
        rintro _ m6 ⟨w6, f6, rfl, -⟩
        exact ⟨rfl, (h5.st w6 f6 rfl).q (hm5.fx f6 rfl rfl) e rfl⟩
      | succ k ih =>
        intro i m3 x3 hi h3x h3 hp
        have c43 := h3.2.2.2.1.c43
        refine g_X12_best_46 (d := d + 177) ⟨fun c => absurd (by rw [c43] at c; exact (nI_leI (by omega) (by omega)).mp c) (by omega), fun _ => (loadV (d := d + 177) h3 hp (i := i) (by omega)).to ?_⟩
        rintro _ m4 ⟨rfl, h4, x4⟩
        refine ⟨rfl, (powerM (d := d + 9) h4.1 (x4.hm n8) h4.2.2.2.2.2.1 (s := s) hs).to ?_⟩
        rintro _ m5 ⟨w5, f5, rfl⟩
        have h5 := h4.st w5 f5 rfl
        have x5 := x4.fx f5 rfl rfl
        have J : gpA (fun i => pwG v (kS S i, g.2) s) (i + 1) = pwG v (kS S i, g.2) s → AW ad E0 μX12_best (d + 178) (mQ v g m (orS (srG v g n) (fun S => gpA (fun i => pwG v (kS S i, g.2) s) (nS S)))) 46 [(0, .ref (ad 187)), (1, .int (nI s)), (3, .int (nI i)), (4, .int (pwG v (kS S i, g.2) s)), (5, .int (nI (i + 1)))] [] m5 := fun e1 => by
          have := ih (i + 1) m5 i (by omega) (by omega) h5 ⟨_, x5⟩
          rw [e1] at this
          exact this
        rw [nI_1]
        refine ⟨_, rfl, fun c => J (gpA_0 (by have := (l_le 0 0 rfl (by decide) (by omega)).mp c; omega)), fun c => ?_⟩
        have hi0 : ¬ i = 0 := fun z => c (by rw [z]; exact (l_le 0 0 rfl (by decide) (by decide)).mpr (Nat.le_refl _))
        refine ⟨fun c2 => J (gpA_n hi0 (fun z => by have := z_lt c2; have := z_le z; omega)), fun c2 => ?_⟩
        have := ih (i + 1) m5 x3 (by omega) h3x h5 ⟨_, x5⟩
        rw [gpA_p (f := fun i => pwG v (kS S i, g.2) s) hi0 ((fa_le _ _).mpr (z_nlt c2))] at this
        exact this
    exact L (nS S) 0 m2 0 (by omega) (by decide) h (hx_of hm2)
  · exact ⟨0, rfl, fun q => absurd rfl q, fun _ => h.o e⟩
theorem e_evenM {x1 : Int32} (w0 : WT m) (hm : HM (nE v) m g) (hE : EM m v) (hz : ZB v g) : Ct ad μX12_even (d + 178) [.ref (ad 187), .int x1] m (mQ v g m (evenA v x1 g)) := by
  have n8 := hE.2.2.1
  have w1 : WT (uI m 187 17 0) := w0.n rfl
  have f1 : Fx (RS [20]) m (uI m 187 17 0) := Fx.i Fx.rf rfl
  have hm1 : HM (nE v) (uI m 187 17 0) g := hm
  have em1 : EM (uI m 187 17 0) v := hE
  refine v_X12_even (d := d + 177) ?_
  generalize uI m 187 17 0 = m1 at w1 f1 hm1 em1 ⊢
  have no : ¬ ((0 ≤ x1.toInt ∧ x1.toInt ≤ 9) ∧ ¬ nE v = 0) → mQ v g m (evenA v x1 g) (some (.int (-1))) m1 := fun z => by
    have e : evenA v x1 g = -1 := if_neg z
    rw [e]
    exact ⟨w1, (Fx.rf (S := RS [20, 22, 24, 26, 28, 33, 34, 35, 38, 49])).tr f1 (RS_sub rfl), hm1, rfl⟩
  refine (inM (d := d + 177) (x := x1) (lo := 0) (hi := 9) rfl rfl).to ?_
  rintro _ m2 ⟨eq, v3, rfl, y5, y6⟩
  obtain rfl := eq.symm
  have z0 : (0 : Int32).toInt = 0 := rfl
  have z9 : (9 : Int32).toInt = 9 := rfl
  refine ⟨v3, rfl, fun c3 => no (fun z => y5 c3 ⟨by omega, by omega⟩), fun c3 => ⟨fun c5 => ?_, fun c5 => no (fun z => z.2 ((nI_eq (a := nE v) (b := 0) (by omega) (by decide)).mp (em1.1.symm.trans c5)))⟩⟩
  have h3 := y6 c3
  have hn0 : ¬ nE v = 0 := fun z => c5 (by rw [em1.1, z]; rfl)
  obtain ⟨n, hn, rfl⟩ := zn_of (x := x1) (by omega)
  rw [nI_toInt hn] at h3
  have eA : evenA v (nI n) g = orS (srG v g n) (fun S => lgA (fun i => sprA v (kS S i, g.2)) (nS S)) := by
    unfold evenA
    rw [if_pos ⟨⟨by rw [nI_toInt hn]; omega, by rw [nI_toInt hn]; omega⟩, hn0⟩, nI_clamp hn]
  rw [eA]
  refine (findStatesX (d := d) w1 hm1 em1 hz (wi := n) (by omega)).to ?_
  intro r m2 q
  rcases mv_0 f1 q with ⟨S, e, rfl, h, hm2⟩ | ⟨e, rfl, h⟩
  · refine ⟨1, rfl, fun _ => ?_, fun q => absurd q (by decide)⟩
    have hN := h.2.2.2.1.n
    have L : ∀ k i (m3 : Wm) (x3 : Nat), i + k = nS S → x3 < 3000 → MV v g S m m3 → (∃ f, HX (nE v) m3 (f, g.2)) → AW ad E0 μX12_even (d + 178) (mQ v g m (orS (srG v g n) (fun S => lgA (fun i => sprA v (kS S i, g.2)) (nS S)))) 44 [(0, .ref (ad 187)), (2, .int (nI x3)), (3, .int (lgA (fun i => sprA v (kS S i, g.2)) i)), (4, .int (nI i))] [] m3 := by
      intro k
      induction k with
      | zero =>
        intro i m3 x3 hi h3x h3 hp
        obtain rfl : i = nS S := hi
        have c43 := h3.2.2.2.1.c43
        refine g_X12_even_44 (d := d + 177) ⟨fun _ => (bringV (d := d + 177) h3).to ?_, fun c => absurd (by rw [c43]; exact (nI_leI (by omega) (by omega)).mpr (Nat.le_refl _)) c⟩
        rintro _ m4 ⟨rfl, h4, hm4⟩
        have w5 : WT (uI m4 187 16 (0 : Int32)) := h4.1.t rfl (by decide) (by decide)
        have f5 : Fx (RS [26]) m4 (uI m4 187 16 (0 : Int32)) := Fx.i Fx.rf rfl
        have h5 := h4.st w5 f5 rfl
        have hm5 : HM (nE v) (uI m4 187 16 (0 : Int32)) g := hm4
        refine ⟨rfl, nat_in h3x (by decide), (s_X12_tell w5 (by rw [u_eq]; decide)).to ?_⟩
        rintro _ m6 ⟨w6, f6, rfl, -⟩
        exact ⟨rfl, (h5.st w6 f6 rfl).q (hm5.fx f6 rfl rfl) e rfl⟩
      | succ k ih =>
        intro i m3 x3 hi h3x h3 hp
        have c43 := h3.2.2.2.1.c43
        refine g_X12_even_44 (d := d + 177) ⟨fun c => absurd (by rw [c43] at c; exact (nI_leI (by omega) (by omega)).mp c) (by omega), fun _ => (loadV (d := d + 177) h3 hp (i := i) (by omega)).to ?_⟩
        rintro _ m4 ⟨rfl, h4, x4⟩
        refine ⟨rfl, (spreadNowM (d := d + 8) h4.1 (x4.hm n8) h4.2.2.2.2.2.1).to ?_⟩
        rintro _ m5 ⟨w5, f5, rfl⟩
        have h5 := h4.st w5 f5 rfl
        have x5 := x4.fx f5 rfl rfl
        have J : lgA (fun i => sprA v (kS S i, g.2)) (i + 1) = sprA v (kS S i, g.2) → AW ad E0 μX12_even (d + 178) (mQ v g m (orS (srG v g n) (fun S => lgA (fun i => sprA v (kS S i, g.2)) (nS S)))) 44 [(0, .ref (ad 187)), (2, .int (nI i)), (3, .int (sprA v (kS S i, g.2))), (4, .int (nI (i + 1)))] [] m5 := fun e1 => by
          have := ih (i + 1) m5 i (by omega) (by omega) h5 ⟨_, x5⟩
          rw [e1] at this
          exact this
        rw [nI_1]
        refine ⟨_, rfl, fun c => J (lgA_0 (by have := (l_le 0 0 rfl (by decide) (by omega)).mp c; omega)), fun c => ?_⟩
        have hi0 : ¬ i = 0 := fun z => c (by rw [z]; exact (l_le 0 0 rfl (by decide) (by decide)).mpr (Nat.le_refl _))
        refine ⟨fun c2 => J (lgA_n hi0 (fun z => by have := z_lt c2; have := z_le z; omega)), fun c2 => ?_⟩
        have := ih (i + 1) m5 x3 (by omega) h3x h5 ⟨_, x5⟩
        rw [lgA_p (f := fun i => sprA v (kS S i, g.2)) hi0 ((fa_le _ _).mpr (z_nlt c2))] at this
        exact this
    exact L (nS S) 0 m2 0 (by omega) (by decide) h (hx_of hm2)
  · exact ⟨0, rfl, fun q => absurd rfl q, fun _ => h.o e⟩
theorem e_allM (w0 : WT m) (hm : HM (nE v) m g) (hE : EM m v) (hz : ZB v g) : Ct ad μX12_all (d + 178) [.ref (ad 187)] m (mQ v g m (allA v g)) := by
  have n8 := hE.2.2.1
  have w1 : WT (uI m 187 17 0) := w0.n rfl
  have f1 : Fx (RS [20]) m (uI m 187 17 0) := Fx.i Fx.rf rfl
  have hm1 : HM (nE v) (uI m 187 17 0) g := hm
  have em1 : EM (uI m 187 17 0) v := hE
  refine v_X12_all (d := d + 177) ?_
  generalize uI m 187 17 0 = m1 at w1 f1 hm1 em1 ⊢
  rw [e3000]
  refine (findStatesX (d := d) w1 hm1 em1 hz (wi := 3000) (by decide)).to ?_
  intro r m2 q
  have n1 : ∀ S, srG v g 3000 = some S → 0 < nS S := fun S e => srG_pos e
  rcases mv_0 f1 q with ⟨S, e, rfl, h, hm2⟩ | ⟨e, rfl, h⟩
  · refine ⟨1, rfl, fun _ => ?_, fun q => absurd q (by decide)⟩
    have hN := h.2.2.2.1.n
    have hp1 := n1 S e
    have L : ∀ k i (m3 : Wm) (y1 y2 : Int32), i + k = nS S → MV v g S m m3 → (∃ f, HX (nE v) m3 (f, g.2)) → AW ad E0 μX12_all (d + 178) (mQ v g m (allA v g)) 26 [(0, .ref (ad 187)), (1, .int y1), (2, .int y2), (3, .int (nI i))] [] m3 := by
      intro k
      induction k with
      | zero =>
        intro i m3 y1 y2 hi h3 hp
        obtain rfl : i = nS S := hi
        have c43 := h3.2.2.2.1.c43
        refine g_X12_all_26 (d := d + 177) ⟨fun _ => (bringV (d := d + 177) h3).to ?_, fun c => absurd (by rw [c43]; exact (nI_leI (by omega) (by omega)).mpr (Nat.le_refl _)) c⟩
        rintro _ m4 ⟨rfl, h4, hm4⟩
        have w5 : WT (uI m4 187 16 (0 : Int32)) := h4.1.t rfl (by decide) (by decide)
        have f5 : Fx (RS [26]) m4 (uI m4 187 16 (0 : Int32)) := Fx.i Fx.rf rfl
        have h5 := h4.st w5 f5 rfl
        have hm5 : HM (nE v) (uI m4 187 16 (0 : Int32)) g := hm4
        refine ⟨rfl, (s_X12_tell w5 (by rw [u_eq]; decide)).to ?_⟩
        rintro _ m6 ⟨w6, f6, rfl, p6⟩
        have p6' : (m6.1 187 16).toInt = 0 + 1 := p6
        refine ⟨rfl, (s_X12_tell w6 (by omega)).to ?_⟩
        rintro _ m7 ⟨w7, f7, rfl, p7⟩
        have h7 := (h5.st w6 f6 rfl).st w7 f7 rfl
        have hm7 := (hm5.fx f6 rfl rfl).fx f7 rfl rfl
        have c7 := h7.2.2.2.1.c43
        have e1 : nI (nS S) - 1 = nI (nS S - 1) := nI_sb (a := nS S) (b := 1) (by omega) (by omega)
        rw [c7, e1]
        refine ⟨rfl, nat_in (by omega) (by decide), (s_X12_tell w7 (by omega)).to ?_⟩
        rintro _ m8 ⟨w8, f8, rfl, -⟩
        have h8 := h7.st w8 f8 rfl
        refine ⟨rfl, ?_⟩
        rw [h8.2.2.2.1.c43]
        exact h8.q (hm7.fx f8 rfl rfl) e rfl
      | succ k ih =>
        intro i m3 y1 y2 hi h3 hp
        have c43 := h3.2.2.2.1.c43
        refine g_X12_all_26 (d := d + 177) ⟨fun c => absurd (by rw [c43] at c; exact (nI_leI (by omega) (by omega)).mp c) (by omega), fun _ => (loadV (d := d + 177) h3 hp (i := i) (by omega)).to ?_⟩
        rintro _ m4 ⟨rfl, h4, x4⟩
        refine ⟨rfl, (s_X12_sumOfAll (d := d + 176) h4.1).to ?_⟩
        rintro _ m5 ⟨w5, f5, v5, rfl⟩
        rw [nI_1]
        exact ⟨v5, rfl, ih (i + 1) m5 _ _ (by omega) (h4.st w5 f5 rfl) ⟨_, x4.fx f5 rfl rfl⟩⟩
    exact L (nS S) 0 m2 _ _ (by omega) h (hx_of hm2)
  · exact ⟨0, rfl, fun q => absurd rfl q, fun _ => h.o e⟩
/-! both sides -/
theorem IV.sw {R : List Nat} (h : IV m) (f : Fx (RS R) m m') (e : (R.all fun x => !(([0, 8, 21, 23, 25, 39, 41, 56, 57] : List Nat).elem x)) = true) (s : SWx m') : IV m' := by
  obtain ⟨h1, h2, h3, h4, h5⟩ := h
  refine ⟨h1.fx f (all_ne e rfl), h2.fx f (all_ne e rfl) (all_ne e rfl), ?_, ?_, ?_, h5.2.1.fx f (all_ne e rfl) (all_ne e rfl) (all_ne e rfl) (all_ne e rfl), s⟩
  · rw [f.at (a := 3) (k := 3) (nRS (all_ne e (ρ := 41) rfl) rfl), f.at (a := 187) (k := 1) (nRS (all_ne e (ρ := 23) rfl) rfl)]; exact h3
  · rw [f.at (a := 3) (k := 4) (nRS (all_ne e (ρ := 41) rfl) rfl), f.at (a := 187) (k := 0) (nRS (all_ne e (ρ := 23) rfl) rfl)]; exact h4
  · rw [f.at (a := 0) (k := 15) (nRS (all_ne e (ρ := 8) rfl) rfl), f.at (a := 187) (k := 52) (nRS (all_ne e (ρ := 39) rfl) rfl)]; exact h5.1
theorem og_x {μ μ' : MI} {as : List Value} {c : Nat} {A : EV → Option PLN → GS → Int32} {R B : List Nat}
    (hC : ∀ m g v op, WT m → SWx m → HC 21 m g → EC m v → ZB v g → PlO v m op → Ct ad μ (d + 300) (.ref (ad 0) :: as) m (fun r m' => WT m' ∧ Fx (RS R) m m' ∧ SWx m' ∧ r = some (.int (A v op g))))
    (hM : ∀ m g v op, WT m → HM (nE v) m g → EM m v → ZB v g → PlO v m op → Ct ad μ' (d + 300) (.ref (ad 187) :: as) m (fun r m' => WT m' ∧ Fx (RS B) m m' ∧ HM (nE v) m' g ∧ r = some (.int (A v op g))))
    (a1 : (R.all fun x => !(KGL.elem x)) = true) (a2 : (R.all fun x => !(([0, 8, 21, 23, 25, 39, 41, 56, 57] : List Nat).elem x)) = true) (a3 : (R.all fun x => !(KLB.elem x)) = true)
    (b1 : (B.all fun x => !(KGH.elem x)) = true) (b2 : (B.all fun x => !(IL.elem x)) = true) (b3 : (B.all fun x => !(KLB.elem x)) = true)
    (c1 : (R.all fun x => !(([7, 25, 54, 55] : List Nat).elem x)) = true) : Both ad d μ μ' as (InvK (KX KG c)) (InvK (KX KG (c + 1))) := fun m I => by
  obtain ⟨w, I1, ⟨g, v, H, kd⟩, kb⟩ := I
  obtain ⟨op, px⟩ := plO_of kb.1 kd.2.2.1
  refine (hC m g v op w I1.2.2.2.2.2.2 kd.1 kd.2.2.1 kd.2.2.2.2.2.2.1 px).to ?_
  rintro _ m1 ⟨w1, f1, s1, rfl⟩
  have kd1 := kd.fx f1 a1
  have J1 := I1.sw f1 a2 s1
  refine ⟨_, rfl, (hM m1 g v op w1 kd1.2.1 kd1.2.2.2.1 kd1.2.2.2.2.2.2.1 (px.fx f1 (all_ne c1 rfl) (all_ne c1 rfl) (all_ne c1 rfl) (all_ne c1 rfl))).to ?_⟩
  rintro _ m2 ⟨w2, f2, hm2, rfl⟩
  exact ⟨rfl, w2, J1.fx f2 b2, ⟨g, v, H, kd1.hms f2 b1 hm2⟩, KB.fd c f1 f2 kb a3 b3⟩
theorem og_top (c : Nat) (x1 x2 x3 : Int32) : Both ad d μX11_top μX12_top [.int x1, .int x2, .int x3] (InvK (KX KG c)) (InvK (KX KG (c + 1))) := og_x (R := [2, 9, 10, 11, 14, 58]) (B := [20, 22, 24, 26, 28, 33, 34, 35, 38, 49]) (A := fun v _ g => topA v x1 x2 x3 g) (fun m g v _ w s hc he hz _ => e_topC (d := d + 293) w s hc he hz) (fun m g v _ w hm he hz _ => e_topM (d := d + 122) w hm he hz) rfl rfl rfl rfl rfl rfl rfl
theorem og_quick (c : Nat) (x1 : Int32) : Both ad d μX11_quick μX12_quick [.int x1] (InvK (KX KG c)) (InvK (KX KG (c + 1))) := og_x (R := [2, 9, 10, 11, 14, 58]) (B := [20, 22, 24, 26, 28, 33, 34, 35, 38, 49]) (A := fun v _ g => quickA v x1 g) (fun m g v _ w s hc he hz _ => e_quickC (d := d + 293) w s hc he hz) (fun m g v _ w hm he hz _ => e_quickM (d := d + 122) w hm he hz) rfl rfl rfl rfl rfl rfl rfl
theorem og_best (c : Nat) (x1 x2 : Int32) : Both ad d μX11_best μX12_best [.int x1, .int x2] (InvK (KX KG c)) (InvK (KX KG (c + 1))) := og_x (R := [2, 9, 10, 11, 14, 58]) (B := [20, 22, 24, 26, 28, 33, 34, 35, 38, 49]) (A := fun v _ g => bestA v x1 x2 g) (fun m g v _ w s hc he hz _ => e_bestC (d := d + 293) w s hc he hz) (fun m g v _ w hm he hz _ => e_bestM (d := d + 122) w hm he hz) rfl rfl rfl rfl rfl rfl rfl
theorem og_even (c : Nat) (x1 : Int32) : Both ad d μX11_even μX12_even [.int x1] (InvK (KX KG c)) (InvK (KX KG (c + 1))) := og_x (R := [2, 9, 10, 11, 14, 58]) (B := [20, 22, 24, 26, 28, 33, 34, 35, 38, 49]) (A := fun v _ g => evenA v x1 g) (fun m g v _ w s hc he hz _ => e_evenC (d := d + 293) w s hc he hz) (fun m g v _ w hm he hz _ => e_evenM (d := d + 122) w hm he hz) rfl rfl rfl rfl rfl rfl rfl
theorem og_all (c : Nat) : Both ad d μX11_all μX12_all [] (InvK (KX KG c)) (InvK (KX KG (c + 1))) := og_x (R := [2, 9, 10, 11, 14, 58]) (B := [20, 22, 24, 26, 28, 33, 34, 35, 38, 49]) (A := fun v _ g => allA v g) (fun m g v _ w s hc he hz _ => e_allC (d := d + 293) w s hc he hz) (fun m g v _ w hm he hz _ => e_allM (d := d + 122) w hm he hz) rfl rfl rfl rfl rfl rfl rfl
end ENM
end
section
/-! CALLS: rest, mean, soon -/
/-- the games of a turn, from the j-th on -/
def tuG (v : EV) (pl : PLN) : Nat → Nat → GS → GS
  | 0, _, g => g
  | k + 1, j, g => tuG v pl k (j + 1) (qtG v (f1P pl j) (f2P pl j) (thP pl j) g)
def ixS (S : SSt) (f : Nat → Int32) : Option Nat := fstI (fun i => eqB (kS S i) f) (nS S) 0
/-- turn after turn till one comes again -/
def seaS (v : EV) (pl : PLN) : Nat → GS → SSt → Option Nat × SSt
  | 0, _, S => (none, S)
  | k + 1, g, S => match ixS S (tuG v pl (gmP pl) 0 g).1 with
    | some i => (some i, S)
    | none => seaS v pl k (tuG v pl (gmP pl) 0 g) (adS (tuG v pl (gmP pl) 0 g).1 0 S)
def seaG (v : EV) (pl : PLN) (g : GS) : Option Nat × SSt := seaS v pl 2000 g (s0S g.1)
def restA (v : EV) (op : Option PLN) (g : GS) : Int32 := match op with
  | none => -1
  | some pl => match (seaG v pl g).1 with
    | none => -3
    | some i => nI i
def meanA (v : EV) (op : Option PLN) (x1 x2 : Int32) (g : GS) : Int32 := if InD (nE v) x1 ∧ InD (aE v) x2 then (match op with
  | none => -1
  | some pl => match (seaG v pl g).1 with
    | none => -3
    | some _ => 0) else -1
def soA (o : Option Nat) : Option Nat → Int32
  | some i => nI i
  | none => match o with
    | none => -3
    | some _ => -2
def soonA (v : EV) (op : Option PLN) (x1 x2 x3 : Int32) (g : GS) : Int32 := if InD (nE v) x1 ∧ InD (aE v) x2 ∧ 0 ≤ x3.toInt ∧ x3.toInt ≤ 7 then (match op with
  | none => -1
  | some pl => soA (seaG v pl g).1 (fstI (skB (seaG v pl g).2 x1.toNatClampNeg x2.toNatClampNeg x3) (nS (seaG v pl g).2) 0)) else -1
section SEA
variable {ad : Nat → Nat} {d : Nat} {m m' m0 : Wm} {g : GS} {v : EV} {S : SSt} {pl : PLN} {f : Nat → Int32}
theorem fstI_b {b : Nat → Bool} : ∀ k i j, fstI b k i = some j → b j = true := by
  intro k
  induction k with
  | zero => intro i j h; cases h
  | succ k ih =>
    intro i j h
    have h' : (if b i = true then some i else fstI b k (i + 1)) = some j := h
    by_cases c : b i = true
    · rw [if_pos c] at h'
      have := Option.some.inj h'
      rw [← this]
      exact c
    · rw [if_neg c] at h'
      exact ih _ _ h'
theorem fstI_none {b : Nat → Bool} : ∀ k i, fstI b k i = none → ∀ j, i ≤ j → j < i + k → b j = false := by
  intro k
  induction k with
  | zero => intro i h j h1 h2; omega
  | succ k ih =>
    intro i h j h1 h2
    have h' : (if b i = true then some i else fstI b k (i + 1)) = none := h
    by_cases c : b i = true
    · rw [if_pos c] at h'; cases h'
    · rw [if_neg c] at h'
      by_cases q : j = i
      · rw [q]
        cases e : b i with
        | false => rfl
        | true => exact absurd e c
      · exact ih _ h' j (by omega) (by omega)
/-- no two states alike -/
def UqS (S : SSt) : Prop := ∀ i j f, i < nS S → j < nS S → EQ32 (kS S i) f → EQ32 (kS S j) f → i = j
theorem ixS_some (u : UqS S) {i : Nat} (hi : i < nS S) (e : EQ32 (kS S i) f) : ixS S f = some i := by
  cases h : ixS S f with
  | none => exact absurd (eqB_iff.mpr e) (by rw [fstI_none _ _ h i (Nat.zero_le _) (by omega)]; decide)
  | some j =>
    have hj := fstI_lt _ _ _ h
    have ej := eqB_iff.mp (fstI_b _ _ _ h)
    rw [u i j f hi (by omega) e ej]
theorem ixS_none (n : ¬ InS S f) : ixS S f = none := by
  cases h : ixS S f with
  | none => rfl
  | some j =>
    have hj := fstI_lt _ _ _ h
    exact absurd ⟨j, by omega, eqB_iff.mp (fstI_b _ _ _ h)⟩ n
theorem SC.uq (h : SC m S) : UqS S := fun i j f hi hj e1 e2 => by
  obtain ⟨a1, a2, -⟩ := h.2 i hi
  obtain ⟨b1, b2, -⟩ := h.2 j hj
  obtain ⟨q1, q2⟩ := pk_e32 (e1.trans e2.symm)
  exact h.1.2.2.2.2.2 i j hi hj (by rw [a1, b1, q1]) (by rw [a2, b2, q2])
theorem SM.uq (h : SM m S) : UqS S := fun i j f hi hj e1 e2 => by
  obtain ⟨a1, a2, -⟩ := h.2.1 i hi
  obtain ⟨b1, b2, -⟩ := h.2.1 j hj
  obtain ⟨q1, q2⟩ := mk_e32 (e1.trans e2.symm)
  exact h.1.2.2.2.2.2 i j hi hj (by rw [a1, b1, q1]) (by rw [a2, b2, q2])
theorem seaS_f {k : Nat} {i : Nat} (h : ixS S (tuG v pl (gmP pl) 0 g).1 = some i) : seaS v pl (k + 1) g S = (some i, S) := by
  show (match ixS S (tuG v pl (gmP pl) 0 g).1 with | some i => (some i, S) | none => seaS v pl k (tuG v pl (gmP pl) 0 g) (adS (tuG v pl (gmP pl) 0 g).1 0 S)) = _
  rw [h]
theorem seaS_n {k : Nat} (h : ixS S (tuG v pl (gmP pl) 0 g).1 = none) : seaS v pl (k + 1) g S = seaS v pl k (tuG v pl (gmP pl) 0 g) (adS (tuG v pl (gmP pl) 0 g).1 0 S) := by
  show (match ixS S (tuG v pl (gmP pl) 0 g).1 with | some i => (some i, S) | none => seaS v pl k (tuG v pl (gmP pl) 0 g) (adS (tuG v pl (gmP pl) 0 g).1 0 S)) = _
  rw [h]
theorem tuG_2 : ∀ k j (g : GS), (tuG v pl k j g).2 = g.2 := by
  intro k
  induction k with
  | zero => intro j g; rfl
  | succ k ih =>
    intro j g
    exact (ih (j + 1) _).trans stl_f2
theorem tuG_z (hp : PlnOK v pl) (h4 : aE v ≤ 4) : ∀ k j (g : GS), j + k ≤ gmP pl → ZB v g → ZB v (tuG v pl k j g) := by
  intro k
  induction k with
  | zero => intro j g _ h; exact h
  | succ k ih =>
    intro j g hj h
    obtain ⟨c1, c2, -, -⟩ := hp.2.2.2.2 j (by omega)
    exact ih (j + 1) _ (by omega) (h.qt c1 c2 h4)
/-! the class -/
theorem playTurnC (hp : PlnOK v pl) (w0 : WT m) (h : HC 167 m g) (hE : EC m v) {P Q : Nat} (hR : PRF m P Q) (hP : PlnC m pl) : Ct ad μX7_playTurn (d + 5) [.ref (ad 166), .ref (ad 3), .ref (ad P)] m (fun r m' => r = none ∧ WT m' ∧ Fx (RS [2, 12, 14]) m m' ∧ HC 167 m' (tuG v pl (gmP pl) 0 g)) := by
  obtain ⟨a1, a2, a3, a4, a5⟩ := hp
  obtain ⟨q1, q2, q3⟩ := hR.pl
  have L : ∀ k j (g1 : GS) (m1 : Wm), j + k = gmP pl → tuG v pl k j g1 = tuG v pl (gmP pl) 0 g → WT m1 → Fx (RS [2, 12, 14]) m m1 → HC 167 m1 g1 → AW ad E0 μX7_playTurn (d + 5) (fun r m' => r = none ∧ WT m' ∧ Fx (RS [2, 12, 14]) m m' ∧ HC 167 m' (tuG v pl (gmP pl) 0 g)) 2 [(0, .ref (ad 166)), (1, .ref (ad 3)), (2, .ref (ad P)), (3, .int (nI j))] [] m1 := by
    intro k
    induction k with
    | zero =>
      intro j g1 m1 hj hT w1 f1 h1
      obtain rfl : j = gmP pl := hj
      obtain ⟨P', Q', hR', p1, p2, p3, p4⟩ := hP.fx f1 rfl rfl
      have eP : P' = P := Option.some.inj (hR'.1.symm.trans ((hR.fx f1 rfl).1))
      subst eP
      have hT' : g1 = tuG v pl (gmP pl) 0 g := hT
      exact g_X7_playTurn_2 (d := d + 4) q2 ⟨fun _ => ⟨rfl, w1, f1, by rw [← hT']; exact h1⟩, fun c => absurd (by rw [p2]; exact (nI_leI (by omega) (by omega)).mpr (Nat.le_refl _)) c⟩
    | succ k ih =>
      intro j g1 m1 hj hT w1 f1 h1
      obtain ⟨P', Q', hR', p1, p2, p3, p4⟩ := hP.fx f1 rfl rfl
      have eP : P' = P := Option.some.inj (hR'.1.symm.trans ((hR.fx f1 rfl).1))
      subst eP
      have hPQ := hR'.2.2
      obtain ⟨b1, b2, b3⟩ := p3 j (by omega)
      obtain ⟨c1, c2, c3, c4⟩ := a5 j (by omega)
      have E1 := hE.fx f1 rfl
      have n8 := E1.2.2.1
      have V : vp_in (nI j) 48 := nat_in (by omega) (by decide)
      refine g_X7_playTurn_2 (d := d + 4) q2 ⟨fun c => absurd (by rw [p2] at c; exact (nI_leI (by omega) (by omega)).mp c) (by omega), fun _ => ⟨V, V, V, ?_⟩⟩
      rw [nI_clamp (by omega), b1, b2, b3]
      refine (resultC (d := d) SS_167 G12 w1 h1 E1 (by omega) (by omega) c4).to ?_
      rintro _ m2 ⟨w2, f2, rfl⟩
      have e1 : m2.1 (P' + 1) j = nI (f1P pl j) := (f2.at (n7 rfl j (by omega) (by omega))).trans b1
      have e2 : m2.1 (P' + 2) j = nI (f2P pl j) := (f2.at (n7 rfl j (by omega) (by omega))).trans b2
      refine ⟨_, rfl, V, V, ?_⟩
      rw [e1, e2, nI_1]
      refine (settleC (d := d + 1) (cn := false) SS_167 G12 w2 (h1.fx SS_167 f2 rfl) (E1.fx f2 rfl) (by omega) (by omega) c3 (by decide)).to ?_
      rintro _ m3 ⟨rfl, w3, f3, h3⟩
      exact ⟨rfl, ih (j + 1) _ m3 (by omega) hT w3 ((f1.tr f2 (RS_sub rfl)).tr f3 (RS_sub rfl)) h3⟩
  exact v_X7_playTurn (d := d + 4) q2 (L (gmP pl) 0 g m (by omega) rfl w0 Fx.rf h)
/-- what a season leaves behind -/
def sQ (v : EV) (T : Option Nat × SSt) (m0 : Wm) (r : Option Value) (m' : Wm) : Prop := WT m' ∧ Fx (RS [2, 10, 12, 14]) m0 m' ∧ SC m' T.2 ∧ ((∃ i, i < 3000 ∧ T.1 = some i ∧ r = some (.int 1) ∧ m'.1 166 3 = nI i) ∨ (T.1 = none ∧ r = some (.int 0)))
theorem loop_30 (hp : PlnOK v pl) {P Q : Nat} {T : Option Nat × SSt} : ∀ (k t : Nat) (g1 : GS) (S : SSt) (m1 : Wm), t + k = 2001 → nS S = t → seaS v pl k g1 S = T → WT m1 → Fx (RS [2, 10, 12, 14]) m0 m1 → SC m1 S → HC 167 m1 g1 → EC m1 v → PRF m1 P Q → PlnC m1 pl → ZB v g1 → AW ad E0 μX7_findLoop (d + 6) (sQ v T m0) 30 [(0, .ref (ad 166)), (1, .ref (ad 3)), (2, .ref (ad P)), (4, .int (nI t))] [] m1 := by
  intro k
  induction k with
  | zero =>
    intro t g1 S m1 ht hn hT w1 f1 s1 h1 e1 r1 p1 z1
    obtain rfl : t = 2001 := ht
    obtain ⟨q1, q2, q3⟩ := r1.pl
    have hT' : (none, S) = T := hT
    subst hT'
    exact g_X7_findLoop_30 (d := d + 5) q2 ⟨fun _ => ⟨w1, f1, s1, Or.inr ⟨rfl, rfl⟩⟩, fun c => absurd (by decide) c⟩
  | succ k ih =>
    intro t g1 S m1 ht hn hT w1 f1 s1 h1 e1 r1 p1 z1
    obtain ⟨q1, q2, q3⟩ := r1.pl
    refine g_X7_findLoop_30 (d := d + 5) q2 ⟨fun c => absurd ((lt_l 2000 2000 rfl (by decide) (by omega)).mp c) (by omega), fun _ => (playTurnC (d := d) hp w1 h1 e1 r1 p1).to ?_⟩
    rintro _ m2 ⟨rfl, w2, f2, h2⟩
    have z2 := tuG_z hp e1.2.2.2.1 (gmP pl) 0 g1 (by omega) z1
    have hT0 := hT
    have E2 : ∀ i, ixS S (tuG v pl (gmP pl) 0 g1).1 = some i → T = (some i, S) := fun i e => by rw [← hT]; exact seaS_f e
    have E3 : ixS S (tuG v pl (gmP pl) 0 g1).1 = none → T = seaS v pl k (tuG v pl (gmP pl) 0 g1) (adS (tuG v pl (gmP pl) 0 g1).1 0 S) := fun e => by rw [← hT]; exact seaS_n e
    generalize tuG v pl (gmP pl) 0 g1 = g2 at h2 z2 E2 E3
    refine ⟨rfl, (putSkC (d := d + 3) (f := g2.1) (p := g2.2) w2 SS_167 h2 z2.1.2 (s1.fx f2 rfl)).to ?_⟩
    rintro r m3 ⟨w3, f3, q⟩
    have F3 : Fx (RS [2, 10, 12, 14]) m0 m3 := (f1.tr f2 (RS_sub rfl)).tr f3 (RS_sub rfl)
    rcases q with ⟨i, hi, ei, rfl, s3, c3⟩ | ⟨-, q, -⟩ | ⟨ni, -, rfl, c3, s3⟩
    · have e := E2 i (ixS_some s1.uq hi ei)
      subst e
      have ti : (nI i).toInt = (i : Int) := nI_toInt (by omega)
      have F : Fx (RS [12]) m3 (uI (uI m3 166 3 (nI i)) 166 4 (nI t - nI i)) := Fx.i (Fx.i Fx.rf rfl) rfl
      refine ⟨_, rfl, fun c => absurd c3 c, fun _ => ⟨(w3.t rfl (by omega) (by omega)).n rfl, F3.tr F (RS_sub rfl), s3.fx F rfl, Or.inl ⟨i, by omega, rfl, rfl, ?_⟩⟩⟩
      exact (u_ne (by omega)).trans u_eq
    · omega
    · have e := E3 (ixS_none ni)
      refine ⟨_, rfl, fun _ => ?_, fun c => absurd (c3.symm.trans c) (by decide)⟩
      rw [nI_1]
      exact ih (t + 1) g2 _ m3 (by omega) (by rw [adS_n, hn]) e.symm w3 F3 (s3 0) (h2.fx SS_167 f3 rfl) ((e1.fx f2 rfl).fx f3 rfl) ((r1.fx f2 rfl).fx f3 rfl) ((p1.fx f2 rfl rfl).fx f3 rfl rfl) z2
theorem findLoopC (hp : PlnOK v pl) (w0 : WT m) (hW : SWx m) (hc : HC 21 m g) (hE : EC m v) (hz : ZB v g) {P Q : Nat} (hR : PRF m P Q) (hP : PlnC m pl) : Ct ad μX7_findLoop (d + 6) [.ref (ad 166), .ref (ad 3), .ref (ad P), .ref (ad 21)] m (sQ v (seaG v pl g) m) := by
  obtain ⟨q1, q2, q3⟩ := hR.pl
  refine v_X7_findLoop (d := d + 5) q2 SS_21.1 ((copyC (d := d + 4) w0 SS_167 SS_21 (Or.inl (by decide)) hc).to ?_)
  rintro _ m1 ⟨rfl, w1, f1, h1⟩
  obtain ⟨N, hW1⟩ := hW.fx f1 rfl
  refine ⟨rfl, (clearC (d := d + 5) w1 hW1).to ?_⟩
  rintro _ m2 ⟨rfl, w2, f2, t2⟩
  have h2 : HC 167 m2 (g.1, g.2) := h1.fx SS_167 f2 rfl
  have s2 : SC m2 (0, (fun _ => g.1), fun _ => 0) := ⟨t2, fun i hi => absurd hi (Nat.not_lt_zero i)⟩
  refine ⟨rfl, (putSkC (d := d + 3) w2 SS_167 h2 hz.1.2 s2).to ?_⟩
  rintro r m3 ⟨w3, f3, q⟩
  rcases q with ⟨i, hi, -⟩ | ⟨-, q, -⟩ | ⟨-, -, rfl, -, s3⟩
  · exact absurd hi (Nat.not_lt_zero i)
  · exact absurd (show (0 : Nat) < 3000 by decide) q
  have s3' := s3 0
  rw [s0S_e] at s3'
  exact ⟨_, rfl, loop_30 (d := d) hp 2000 1 g (s0S g.1) m3 rfl rfl rfl w3 ((((Fx.rf (S := RS [2, 10, 12, 14])).tr f1 (RS_sub rfl)).tr f2 (RS_sub rfl)).tr f3 (RS_sub rfl)) s3' (h2.fx SS_167 f3 rfl) (((hE.fx f1 rfl).fx f2 rfl).fx f3 rfl) (((hR.fx f1 rfl).fx f2 rfl).fx f3 rfl) (((hP.fx f1 rfl rfl).fx f2 rfl rfl).fx f3 rfl rfl) hz⟩
def oQ (m : Wm) (x : Int32) (r : Option Value) (m' : Wm) : Prop := WT m' ∧ Fx (RS [2, 9, 10, 12, 14]) m m' ∧ SWx m' ∧ r = some (.int x)
theorem oq_1 {x y : Int32} (w : WT m) (h : SWx m) (e : x = y) : oQ m x (some (.int y)) m := e ▸ ⟨w, Fx.rf, h, rfl⟩
theorem oq_2 {x y : Int32} {R : List Nat} {S : SSt} (F : Fx (RS [2, 10, 12, 14]) m0 m) (s : SC m S) (w : WT m') (f : Fx (RS R) m m') (e1 : (R.all fun x => ([2, 9, 10, 12, 14] : List Nat).elem x) = true) (e2 : R.elem 10 = false) (e : x = y) : oQ m0 x (some (.int y)) m' := e ▸ ⟨w, ((Fx.rf (S := RS [2, 9, 10, 12, 14])).tr F (RS_sub rfl)).tr f (RS_sub e1), s.sw.fx f e2, rfl⟩
theorem e_restC {op : Option PLN} (w0 : WT m) (hW : SWx m) (hc : HC 21 m g) (hE : EC m v) (hz : ZB v g) (hp : PlO v m op) : Ct ad μX11_rest (d + 7) [.ref (ad 0)] m (oQ m (restA v op g)) := by
  obtain ⟨P, k1, k2, k3⟩ := hp.c
  refine v_X11_rest (d := d + 6) ⟨P, k1, k2, fun c => ?_, fun c => ?_⟩
  · cases op with
    | none => exact absurd (k3.mpr rfl) c
    | some pl =>
      obtain ⟨hok, hP, -⟩ := hp
      obtain ⟨P', Q', hR, -⟩ := id hP
      have eP : P' = P := Option.some.inj (hR.1.symm.trans k1)
      subst eP
      refine ⟨P', k1, k2, (findLoopC (d := d) hok w0 hW hc hE hz hR hP).to ?_⟩
      rintro r m1 ⟨w1, f1, s1, q⟩
      rcases q with ⟨i, hi, e, rfl, c3⟩ | ⟨e, rfl⟩
      · have t3 := w1.at (a := 166) (k := 3) rfl
        refine ⟨1, rfl, fun _ => (s_X9_total (d := d + 5) w1 (by omega) (by omega)).to ?_, fun q => absurd q (by decide)⟩
        rintro _ m2 ⟨w2, f2, v2, rfl⟩
        refine ⟨v2, rfl, (s_X11_tell_ w2).to ?_⟩
        rintro _ m3 ⟨w3, f3, rfl⟩
        have F3 : Fx (RS [9]) m1 m3 := ((Fx.rf (S := RS [9])).tr f2 (RS_sub rfl)).tr f3 (RS_sub rfl)
        have e3 : m3.1 166 3 = nI i := (F3.at (nRS (ρ := 12) rfl rfl)).trans c3
        refine ⟨rfl, ?_⟩
        rw [e3]
        refine oq_2 f1 s1 w3 F3 rfl rfl ?_
        show (match (seaG v pl g).1 with | none => (-3 : Int32) | some i => nI i) = nI i
        rw [e]
      · refine ⟨0, rfl, fun q => absurd rfl q, fun _ => oq_2 f1 s1 w1 (Fx.rf (S := RS [])) rfl rfl ?_⟩
        show (match (seaG v pl g).1 with | none => (-3 : Int32) | some i => nI i) = -3
        rw [e]
  · have e := k3.mp c
    subst e
    exact oq_1 w0 hW rfl
theorem e_meanC {op : Option PLN} {x1 x2 : Int32} (w0 : WT m) (hW : SWx m) (hc : HC 21 m g) (hE : EC m v) (hz : ZB v g) (hp : PlO v m op) : Ct ad μX11_mean (d + 7) [.ref (ad 0), .int x1, .int x2] m (oQ m (meanA v op x1 x2 g)) := by
  have n8 := hE.2.2.1
  have no : ¬ (InD (nE v) x1 ∧ InD (aE v) x2) → oQ m (meanA v op x1 x2 g) (some (.int (-1))) m := fun z => oq_1 w0 hW (if_neg z)
  refine v_X11_mean (d := d + 6) ((hasC (d := d + 6) (x := x1) hE.1 n8).to ?_)
  rintro _ m1 ⟨eq, v1, rfl, y1, y2⟩
  obtain rfl := eq.symm
  refine ⟨v1, rfl, fun c => no (fun z => y1 c z.1), fun c => (knowsC (d := d + 6) (x := x2) hE.2.1 (by have := hE.2.2.2.1; omega)).to ?_⟩
  rintro _ m1 ⟨eq, v2, rfl, y3, y4⟩
  obtain rfl := eq.symm
  refine ⟨v2, rfl, fun c => no (fun z => y3 c z.2), fun c2 => ?_⟩
  have hin : InD (nE v) x1 ∧ InD (aE v) x2 := ⟨y2 c, y4 c2⟩
  obtain ⟨P, k1, k2, k3⟩ := hp.c
  refine ⟨P, k1, k2, fun c => ?_, fun c => ?_⟩
  · cases op with
    | none => exact absurd (k3.mpr rfl) c
    | some pl =>
      obtain ⟨hok, hP, -⟩ := hp
      obtain ⟨P', Q', hR, -⟩ := id hP
      have eP : P' = P := Option.some.inj (hR.1.symm.trans k1)
      subst eP
      have eA : meanA v (some pl) x1 x2 g = (match (seaG v pl g).1 with | none => (-3 : Int32) | some _ => 0) := if_pos hin
      rw [eA]
      refine ⟨P', k1, k2, (findLoopC (d := d) hok w0 hW hc hE hz hR hP).to ?_⟩
      rintro r m1 ⟨w1, f1, s1, q⟩
      rcases q with ⟨i, hi, e, rfl, c3⟩ | ⟨e, rfl⟩
      · refine ⟨1, rfl, fun _ => (s_X7_loopSum (d := d + 5) w1).to ?_, fun q => absurd q (by decide)⟩
        rintro _ m2 ⟨w2, f2, v2, rfl⟩
        refine ⟨v2, rfl, (s_X11_tellFraction (d := d + 5) w2).to ?_⟩
        rintro _ m3 ⟨w3, f3, rfl⟩
        exact ⟨rfl, oq_2 f1 s1 w3 (((Fx.rf (S := RS [9])).tr f2 (RS_sub rfl)).tr f3 (RS_sub rfl)) rfl rfl (by rw [e])⟩
      · exact ⟨0, rfl, fun q => absurd rfl q, fun _ => oq_2 f1 s1 w1 (Fx.rf (S := RS [])) rfl rfl (by rw [e])⟩
  · have e := k3.mp c
    subst e
    exact oq_1 w0 hW (if_pos hin)
theorem e_soonC {op : Option PLN} {x1 x2 x3 : Int32} (w0 : WT m) (hW : SWx m) (hc : HC 21 m g) (hE : EC m v) (hz : ZB v g) (hp : PlO v m op) : Ct ad μX11_soon (d + 7) [.ref (ad 0), .int x1, .int x2, .int x3] m (oQ m (soonA v op x1 x2 x3 g)) := by
  have n8 := hE.2.2.1
  have no : ¬ (InD (nE v) x1 ∧ InD (aE v) x2 ∧ 0 ≤ x3.toInt ∧ x3.toInt ≤ 7) → oQ m (soonA v op x1 x2 x3 g) (some (.int (-1))) m := fun z => oq_1 w0 hW (if_neg z)
  refine v_X11_soon (d := d + 6) ((hasC (d := d + 6) (x := x1) hE.1 n8).to ?_)
  rintro _ m1 ⟨eq, v1, rfl, y1, y2⟩
  obtain rfl := eq.symm
  refine ⟨v1, rfl, fun c => no (fun z => y1 c z.1), fun c => (knowsC (d := d + 6) (x := x2) hE.2.1 (by have := hE.2.2.2.1; omega)).to ?_⟩
  rintro _ m1 ⟨eq, v2, rfl, y3, y4⟩
  obtain rfl := eq.symm
  refine ⟨v2, rfl, fun c => no (fun z => y3 c z.2.1), fun c2 => ⟨fun c3 => no (fun z => ?_), fun c3 => ⟨fun c4 => no (fun z => ?_), fun c4 => ?_⟩⟩⟩
  · have := y_ltr (n := 0) rfl c3
    have := z.2.2.1
    omega
  · have := y_ltl (n := 7) rfl c4
    have := z.2.2.2
    omega
  have h1 := y2 c
  have h2 := y4 c2
  have k3' := y_nltr (n := 0) rfl c3
  have k4' := y_nltl (n := 7) rfl c4
  obtain ⟨s, hs, rfl⟩ := h1.of
  obtain ⟨a, ha, rfl⟩ := h2.of
  have h4 := hE.2.2.2.1
  obtain ⟨P, k1, k2, k3⟩ := hp.c
  refine ⟨P, k1, k2, fun c => ?_, fun c => ?_⟩
  · cases op with
    | none => exact absurd (k3.mpr rfl) c
    | some pl =>
      obtain ⟨hok, hP, -⟩ := hp
      obtain ⟨P', Q', hR, -⟩ := id hP
      have eP : P' = P := Option.some.inj (hR.1.symm.trans k1)
      subst eP
      have eA : soonA v (some pl) (nI s) (nI a) x3 g = soA (seaG v pl g).1 (fstI (skB (seaG v pl g).2 s a x3) (nS (seaG v pl g).2) 0) := by
        unfold soonA
        rw [if_pos ⟨h1, h2, k3', k4'⟩, nI_clamp (by omega), nI_clamp (by omega)]
      rw [eA]
      refine ⟨P', k1, k2, (findLoopC (d := d) hok w0 hW hc hE hz hR hP).to ?_⟩
      rintro r m1 ⟨w1, f1, s1, q⟩
      have hN := s1.n
      have FW := firstC (ad := ad) (d := d + 5) (x := x3) s1 (s := s) (a := a) (by omega) (by omega)
      generalize hT : seaG v pl g = T at s1 q FW hN ⊢
      obtain ⟨o, S⟩ := T
      have G : ∀ x8 : Int32, ((o = none ∧ x8 = 0) ∨ (∃ i, o = some i ∧ x8 = 1)) → ((ixA (fstI (skB S s a x3) (nS S) 0) < 0 → (x8 = 0 → oQ m (soA o (fstI (skB S s a x3) (nS S) 0)) (some (.int (-3))) m1) ∧ (¬ x8 = 0 → oQ m (soA o (fstI (skB S s a x3) (nS S) 0)) (some (.int (-2))) m1)) ∧ (¬ ixA (fstI (skB S s a x3) (nS S) 0) < 0 → oQ m (soA o (fstI (skB S s a x3) (nS S) 0)) (some (.int (ixA (fstI (skB S s a x3) (nS S) 0)))) m1)) := by
        intro x8 h8
        have fi := fst_in (S := S) (b := skB S s a x3)
        generalize fstI (skB S s a x3) (nS S) 0 = z at fi ⊢
        have fin : ∀ y : Int32, soA o z = y → oQ m (soA o z) (some (.int y)) m1 := fun y hy => oq_2 f1 s1 w1 (Fx.rf (S := RS [])) rfl rfl hy
        cases z with
        | none =>
          refine ⟨fun _ => ⟨fun q8 => fin _ ?_, fun q8 => fin _ ?_⟩, fun c => absurd (by decide) c⟩
          · rcases h8 with ⟨rfl, -⟩ | ⟨i, -, q⟩
            · rfl
            · rw [q] at q8; exact absurd q8 (by decide)
          · rcases h8 with ⟨-, q⟩ | ⟨i, rfl, -⟩
            · exact absurd q q8
            · rfl
        | some i =>
          have hi := fi i rfl
          have hN' : nS S ≤ 3000 := hN
          exact ⟨fun c => absurd ((l_lt 0 0 rfl (by decide) (by omega)).mp c) (by omega), fun _ => fin _ rfl⟩
      rcases q with ⟨i, hi, e, rfl, -⟩ | ⟨e, rfl⟩
      · refine ⟨1, rfl, FW.to ?_⟩
        rintro _ m2 ⟨eq, rfl⟩
        obtain rfl := eq.symm
        exact ⟨_, rfl, G 1 (Or.inr ⟨i, e, rfl⟩)⟩
      · refine ⟨0, rfl, FW.to ?_⟩
        rintro _ m2 ⟨eq, rfl⟩
        obtain rfl := eq.symm
        exact ⟨_, rfl, G 0 (Or.inl ⟨e, rfl⟩)⟩
  · have e := k3.mp c
    subst e
    refine oq_1 w0 hW ?_
    unfold soonA
    rw [if_pos ⟨h1, h2, k3', k4'⟩]
/-! the model -/
theorem goTurnX (hp : PlnOK v pl) (w0 : WT m) {g0 : GS} (h : HX (nE v) m g) (hE : EM m v) (hL : HL (nE v) 204 0 m g0) (h2 : g.2 = g0.2) (hP : PlnM m pl) : Ct ad μX12_goTurn (d + 171) [.ref (ad 187)] m (fun r m' => r = none ∧ WT m' ∧ Fx (RS [22, 24, 28]) m m' ∧ HX (nE v) m' (tuG v pl (gmP pl) 0 g)) := by
  obtain ⟨a1, a2, a3, a4, a5⟩ := hp
  have n8 := hE.2.2.1
  have L : ∀ k j (g1 : GS) (m1 : Wm), j + k = gmP pl → tuG v pl k j g1 = tuG v pl (gmP pl) 0 g → g1.2 = g0.2 → WT m1 → Fx (RS [22, 24, 28]) m m1 → HX (nE v) m1 g1 → AW ad E0 μX12_goTurn (d + 171) (fun r m' => r = none ∧ WT m' ∧ Fx (RS [22, 24, 28]) m m' ∧ HX (nE v) m' (tuG v pl (gmP pl) 0 g)) 2 [(0, .ref (ad 187)), (1, .int (nI j))] [] m1 := by
    intro k
    induction k with
    | zero =>
      intro j g1 m1 hj hT g2 w1 f1 h1
      obtain rfl : j = gmP pl := hj
      have p2 := (hP.fx f1 rfl rfl).2.1
      have hT' : g1 = tuG v pl (gmP pl) 0 g := hT
      exact g_X12_goTurn_2 (d := d + 170) ⟨fun _ => ⟨rfl, w1, f1, by rw [← hT']; exact h1⟩, fun c => absurd (by rw [p2]; exact (nI_leI (by omega) (by omega)).mpr (Nat.le_refl _)) c⟩
    | succ k ih =>
      intro j g1 m1 hj hT g2 w1 f1 h1
      obtain ⟨p1, p2, p3⟩ := hP.fx f1 rfl rfl
      obtain ⟨b1, b2, b3, -⟩ := p3 j (by omega)
      obtain ⟨c1, c2, c3, c4⟩ := a5 j (by omega)
      refine g_X12_goTurn_2 (d := d + 170) ⟨fun c => absurd (by rw [p2] at c; exact (nI_leI (by omega) (by omega)).mp c) (by omega), fun _ => ?_⟩
      rw [l_mul 4 4 rfl, nI_1, add_l 2 2 rfl, nI_clamp (by omega), nI_clamp (by omega), nI_clamp (by omega), b1, b2, b3, nI_1]
      refine ⟨nat_in (by omega) (by decide), nat_in (by omega) (by decide), nat_in (by omega) (by decide), (goQuietX (d := d) (g0 := g0) w1 h1 (hE.fx f1 rfl) (hL.fx f1 (fun _ => rfl) rfl) g2 c1 c2 c3 c4).to ?_⟩
      rintro _ m2 ⟨rfl, w2, f2, hx2⟩
      exact ⟨rfl, ih (j + 1) _ m2 (by omega) hT (stl_f2.trans g2) w2 (f1.tr f2 (fun _ _ h => h)) hx2⟩
  exact v_X12_goTurn (d := d + 170) (L (gmP pl) 0 g m (by omega) rfl h2 w0 Fx.rf h)
def rQ (v : EV) (g : GS) (T : Option Nat × SSt) (m0 : Wm) (r : Option Value) (m' : Wm) : Prop := WT m' ∧ Fx (RS [22, 24, 28, 34, 35, 49]) m0 m' ∧ HM (nE v) m' g ∧ HL (nE v) 204 0 m' g ∧ EM m' v ∧ SM m' T.2 ∧
  ((∃ i l, T.1 = some i ∧ i < nS T.2 ∧ r = some (.int 1) ∧ m'.1 187 45 = nI i ∧ m'.1 187 46 = nI l ∧ 1 ≤ l ∧ i + l ≤ 2000) ∨ (T.1 = none ∧ r = some (.int 0)))
/-- between two turns -/
def RJ (v : EV) (pl : PLN) (g g1 : GS) (S : SSt) (m0 m : Wm) : Prop := WT m ∧ Fx (RS [22, 24, 28, 34, 35, 49]) m0 m ∧ ST m ∧ SM m S ∧ HL (nE v) 204 0 m g ∧ EM m v ∧ HX (nE v) m g1 ∧ PlnM m pl ∧ ZB v g1 ∧ g1.2 = g.2
theorem r_90 {T : Option Nat × SSt} {x1 : Int32} (w1 : WT m) (f1 : Fx (RS [22, 24, 28, 34, 35, 49]) m0 m) (sm : SM m T.2) (hl : HL (nE v) 204 0 m g) (em : EM m v) (hq : (∃ i l, T.1 = some i ∧ i < nS T.2 ∧ x1 = 1 ∧ m.1 187 45 = nI i ∧ m.1 187 46 = nI l ∧ 1 ≤ l ∧ i + l ≤ 2000) ∨ (T.1 = none ∧ x1 = 0)) : AW ad E0 μX12_findRest (d + 177) (rQ v g T m0) 90 [(0, .ref (ad 187)), (1, .int x1)] [] m := by
  refine g_X12_findRest_90 (d := d + 176) ((bringH (x := 0) (na := 57) rfl (by decide) (by decide) w1 hl (by decide)).to ?_)
  rintro _ m2 ⟨rfl, w2, f2, H2⟩
  have e1 := f2.at (a := 187) (k := 45) (nRS (ρ := 35) rfl rfl)
  have e2 := f2.at (a := 187) (k := 46) (nRS (ρ := 35) rfl rfl)
  refine ⟨rfl, ?_, w2, f1.tr f2 (RS_sub rfl), H2, hl.fx f2 (fun _ => rfl) rfl, em.fx f2 rfl, sm.fx f2 rfl, ?_⟩
  · rcases hq with ⟨i, l, -, -, q, -⟩ | ⟨-, q⟩
    · exact Or.inr q
    · exact Or.inl q
  · rcases hq with ⟨i, l, q1, q2, q3, q4, q5, q6, q7⟩ | ⟨q1, q2⟩
    · exact Or.inl ⟨i, l, q1, q2, by rw [q3], by rw [e1, q4], by rw [e2, q5], q6, q7⟩
    · exact Or.inr ⟨q1, by rw [q2]⟩
theorem rest_18 (hp : PlnOK v pl) {T : Option Nat × SSt} : ∀ (k t : Nat) (g1 : GS) (S : SSt) (m1 : Wm), t + k = 2001 → nS S = t → seaS v pl k g1 S = T → RJ v pl g g1 S m0 m1 → AW ad E0 μX12_findRest (d + 177) (rQ v g T m0) 18 [(0, .ref (ad 187)), (1, .int 0), (2, .int (nI t))] [] m1 := by
  intro k
  induction k with
  | zero =>
    intro t g1 S m1 ht hn hT h
    obtain rfl : t = 2001 := ht
    have hT' : (none, S) = T := hT
    subst hT'
    obtain ⟨w1, f1, s1, sm, hl, em, hx, hP, z1, e2⟩ := h
    exact g_X12_findRest_18 (d := d + 176) ⟨fun _ => r_90 (d := d) w1 f1 sm hl em (Or.inr ⟨rfl, rfl⟩), fun c => absurd (by decide) c⟩
  | succ k ih =>
    intro t g1 S m1 ht hn hT h
    obtain ⟨w1, f1, s1, sm, hl, em, hx, hP, z1, e2⟩ := h
    refine g_X12_findRest_18 (d := d + 176) ⟨fun c => absurd ((lt_l 2000 2000 rfl (by decide) (by omega)).mp c) (by omega), fun _ => ⟨fun c => absurd rfl c, fun _ => (goTurnX (d := d + 5) hp w1 hx em hl e2 hP).to ?_⟩⟩
    rintro _ m2 ⟨rfl, w2, f2, hx2⟩
    have z2 := tuG_z hp em.2.2.2.1 (gmP pl) 0 g1 (by omega) z1
    have g22 : (tuG v pl (gmP pl) 0 g1).2 = g.2 := (tuG_2 _ _ _).trans e2
    have E2 : ∀ i, ixS S (tuG v pl (gmP pl) 0 g1).1 = some i → T = (some i, S) := fun i e => by rw [← hT]; exact seaS_f e
    have E3 : ixS S (tuG v pl (gmP pl) 0 g1).1 = none → T = seaS v pl k (tuG v pl (gmP pl) 0 g1) (adS (tuG v pl (gmP pl) 0 g1).1 0 S) := fun e => by rw [← hT]; exact seaS_n e
    generalize tuG v pl (gmP pl) 0 g1 = g2 at hx2 z2 g22 E2 E3
    have sm2 := sm.fx f2 rfl
    have s2 := s1.fx f2 rfl
    have hl2 := hl.fx f2 (fun _ => rfl) rfl
    have em2 := em.fx f2 rfl
    have hP2 := hP.fx f2 rfl rfl
    have F2 : Fx (RS [22, 24, 28, 34, 35, 49]) m0 m2 := f1.tr f2 (RS_sub rfl)
    refine ⟨rfl, (stateNowS (d := d + 175) (q := 0) w2 s2 sm2 hx2.1 z2.1.2 (Or.inl ⟨rfl, rfl⟩)).to ?_⟩
    rintro r m3 ⟨w3, f3, s3, q⟩
    have F3 := F2.tr f3 (RS_sub (l2 := [22, 24, 28, 34, 35, 49]) rfl)
    have hl3 := hl2.fx f3 (fun _ => rfl) rfl
    have em3 := em2.fx f3 rfl
    have hP3 := hP2.fx f3 rfl rfl
    have hx3 := hx2.fx f3 rfl rfl
    rcases q with ⟨i, hi, ei, rfl, sm3⟩ | ⟨-, q, -⟩ | ⟨ni, -, rfl, sm3⟩
    · have e := E2 i (ixS_some sm.uq hi ei)
      subst e
      have ti : (nI i).toInt = (i : Int) := nI_toInt (by omega)
      have tt : (nI t).toInt = (t : Int) := nI_toInt (by omega)
      have e43 : m3.1 187 43 = m2.1 187 43 := by rw [sm3.c43, sm2.c43]
      refine ⟨_, rfl, fun c => absurd e43 c, fun _ => g_X12_findRest_62 (d := d + 176) ⟨fun _ => ?_, fun c => absurd c (by decide)⟩⟩
      have eS : nI t - nI i = nI (t - i) := nI_sb (a := t) (b := i) (by omega) (by omega)
      have tl : (nI (t - i)).toInt = ((t - i : Nat) : Int) := nI_toInt (by omega)
      rw [eS]
      have w4 : WT (uI (uI m3 187 45 (nI i)) 187 46 (nI (t - i))) := (w3.t rfl (by omega) (by omega)).t rfl (by omega) (by omega)
      have F4 : Fx (RS [22, 24, 28, 34, 35, 49]) m0 (uI (uI m3 187 45 (nI i)) 187 46 (nI (t - i))) := (F3.i rfl).i rfl
      have sm4 : SM (uI (uI m3 187 45 (nI i)) 187 46 (nI (t - i))) S := ⟨⟨sm3.1.1, sm3.1.2⟩, sm3.2.1, sm3.2.2⟩
      have hl4 : HL (nE v) 204 0 (uI (uI m3 187 45 (nI i)) 187 46 (nI (t - i))) g := hl3
      have em4 : EM (uI (uI m3 187 45 (nI i)) 187 46 (nI (t - i))) v := em3
      have fin := r_90 (ad := ad) (d := d) (T := (some i, S)) (x1 := 1) w4 F4 sm4 hl4 em4 (Or.inl ⟨i, t - i, rfl, hi, rfl, (u_ne (by omega)).trans u_eq, u_eq, by omega, by omega⟩)
      exact g_X12_findRest_18 (d := d + 176) ⟨fun _ => fin, fun _ => ⟨fun _ => fin, fun c => absurd c (by decide)⟩⟩
    · omega
    · have e := E3 (ixS_none ni)
      have e43 : ¬ m3.1 187 43 = m2.1 187 43 := fun z => by
        rw [sm3.c43, sm2.c43, adS_n] at z
        have := (nI_eq (a := nS S + 1) (b := nS S) (by omega) (by omega)).mp z
        omega
      refine ⟨_, rfl, fun _ => g_X12_findRest_62 (d := d + 176) ⟨fun c => absurd rfl c, fun _ => ?_⟩, fun c => absurd c e43⟩
      rw [nI_1]
      exact ih (t + 1) g2 _ m3 (by omega) (by rw [adS_n, hn]) e.symm ⟨w3, F3, s3, sm3, hl3, em3, hx3, hP3, z2, g22⟩
theorem findRestX (hp : PlnOK v pl) (w0 : WT m) (hm : HM (nE v) m g) (hE : EM m v) (hz : ZB v g) (hP : PlnM m pl) : Ct ad μX12_findRest (d + 177) [.ref (ad 187)] m (rQ v g (seaG v pl g) m) := by
  refine v_X12_findRest (d := d + 176) ((clearX (d := d + 175) w0 hm hE hz.1.1).to ?_)
  rintro _ m1 ⟨rfl, w1, f1, s1, t1, hx1, hl1⟩
  have em1 := hE.fx f1 rfl
  have sm1 : SM m1 (0, (fun _ => g.1), fun _ => 0) := ⟨t1, fun i hi => absurd hi (Nat.not_lt_zero i), fun i hi => absurd hi (Nat.not_lt_zero i)⟩
  refine ⟨rfl, (stateNowS (d := d + 175) (q := 0) w1 s1 sm1 hx1.1 hz.1.2 (Or.inl ⟨rfl, rfl⟩)).to ?_⟩
  rintro r m2 ⟨w2, f2, s2, q⟩
  rcases q with ⟨i, hi, -⟩ | ⟨-, q, -⟩ | ⟨-, -, rfl, sm2⟩
  · exact absurd hi (Nat.not_lt_zero i)
  · exact absurd (show (0 : Nat) < 3000 by decide) q
  rw [s0S_e] at sm2
  exact ⟨_, rfl, rest_18 (d := d) hp 2000 1 g (s0S g.1) m2 rfl rfl rfl ⟨w2, ((Fx.rf (S := RS [22, 24, 28, 34, 35, 49])).tr f1 (RS_sub rfl)).tr f2 (RS_sub rfl), s2, sm2, hl1.fx f2 (fun _ => rfl) rfl, em1.fx f2 rfl, hx1.fx f2 rfl rfl, (hP.fx f1 rfl rfl).fx f2 rfl rfl, hz, rfl⟩⟩
def nQ (v : EV) (g : GS) (m : Wm) (x : Int32) (r : Option Value) (m' : Wm) : Prop := WT m' ∧ Fx (RS [20, 22, 24, 26, 28, 34, 35, 49]) m m' ∧ HM (nE v) m' g ∧ r = some (.int x)
theorem e_restM {op : Option PLN} (w0 : WT m) (hm : HM (nE v) m g) (hE : EM m v) (hz : ZB v g) (hp : PlO v m op) : Ct ad μX12_rest (d + 178) [.ref (ad 187)] m (nQ v g m (restA v op g)) := by
  have n8 := hE.2.2.1
  have w1 : WT (uI m 187 17 0) := w0.n rfl
  have f1 : Fx (RS [20]) m (uI m 187 17 0) := Fx.i Fx.rf rfl
  have hm1 : HM (nE v) (uI m 187 17 0) g := hm
  have em1 : EM (uI m 187 17 0) v := hE
  have hp1 : PlO v (uI m 187 17 0) op := hp.fx f1 rfl rfl rfl rfl
  refine v_X12_rest (d := d + 177) ?_
  generalize uI m 187 17 0 = m1 at w1 f1 hm1 em1 hp1 ⊢
  have F1 : Fx (RS [20, 22, 24, 26, 28, 34, 35, 49]) m m1 := (Fx.rf (S := RS [20, 22, 24, 26, 28, 34, 35, 49])).tr f1 (RS_sub rfl)
  refine ⟨fun c => ?_, fun c => ?_⟩
  · cases op with
    | none => exact absurd (hp1.mm.mpr rfl) c
    | some pl =>
      obtain ⟨hok, -, hP⟩ := hp1
      refine (findRestX (d := d) hok w1 hm1 em1 hz hP).to ?_
      rintro r m2 ⟨w2, f2, hm2, hl2, em2, sm2, q⟩
      have F2 := F1.tr f2 (RS_sub (l2 := [20, 22, 24, 26, 28, 34, 35, 49]) rfl)
      rcases q with ⟨i, l, e, hi, rfl, c5, c6, l1, l2⟩ | ⟨e, rfl⟩
      · have t45 := w2.at (a := 187) (k := 45) rfl
        refine ⟨1, rfl, fun _ => (s_X12_load (d := d + 177) w2 (by omega) (by omega)).to ?_, fun q => absurd q (by decide)⟩
        rintro _ m3 ⟨w3, f3, rfl⟩
        refine ⟨rfl, (s_X12_sumOfAll (d := d + 176) w3).to ?_⟩
        rintro _ m4 ⟨w4, f4, v4, rfl⟩
        have hl4 := (hl2.fx f3 (fun _ => rfl) rfl).fx f4 (fun _ => rfl) rfl
        refine ⟨v4, rfl, (bringH (x := 0) (na := 57) rfl (by decide) (by decide) w4 hl4 (by decide)).to ?_⟩
        rintro _ m5 ⟨rfl, w5, f5, hm5⟩
        have w6 : WT (uI m5 187 16 (0 : Int32)) := w5.t rfl (by decide) (by decide)
        have f6 : Fx (RS [26]) m5 (uI m5 187 16 (0 : Int32)) := Fx.i Fx.rf rfl
        have hm6 : HM (nE v) (uI m5 187 16 (0 : Int32)) g := hm5
        refine ⟨rfl, (s_X12_tell w6 (by rw [u_eq]; decide)).to ?_⟩
        rintro _ m7 ⟨w7, f7, rfl, p7⟩
        have p7' : (m7.1 187 16).toInt = 0 + 1 := p7
        refine ⟨rfl, (s_X12_tell w7 (by omega)).to ?_⟩
        rintro _ m8 ⟨w8, f8, rfl, -⟩
        have F8 : Fx (RS [22, 24, 26, 28, 49]) m2 m8 := (((((((Fx.rf (S := RS [22, 24, 26, 28, 49])).tr f3 (RS_sub rfl)).tr f4 (RS_sub rfl)).tr f5 (RS_sub rfl)).tr f6 (RS_sub rfl)).tr f7 (RS_sub rfl)).tr f8 (RS_sub rfl))
        have e45 : m8.1 187 45 = nI i := (F8.at (nRS (ρ := 35) rfl rfl)).trans c5
        refine ⟨rfl, w8, F2.tr F8 (RS_sub rfl), (hm6.fx f7 rfl rfl).fx f8 rfl rfl, ?_⟩
        rw [e45]
        show some (Value.int (nI i)) = some (.int (match (seaG v pl g).1 with | none => (-3 : Int32) | some i => nI i))
        rw [e]
      · refine ⟨0, rfl, fun q => absurd rfl q, fun _ => ⟨w2, F2, hm2, ?_⟩⟩
        show some (Value.int (-3)) = some (.int (match (seaG v pl g).1 with | none => (-3 : Int32) | some i => nI i))
        rw [e]
  · have e := hp1.mm.mp c
    subst e
    exact ⟨w1, F1, hm1, rfl⟩
theorem e_meanM {op : Option PLN} {x1 x2 : Int32} (w0 : WT m) (hm : HM (nE v) m g) (hE : EM m v) (hz : ZB v g) (hp : PlO v m op) : Ct ad μX12_mean (d + 178) [.ref (ad 187), .int x1, .int x2] m (nQ v g m (meanA v op x1 x2 g)) := by
  have n8 := hE.2.2.1
  have w1 : WT (uI m 187 17 0) := w0.n rfl
  have f1 : Fx (RS [20]) m (uI m 187 17 0) := Fx.i Fx.rf rfl
  have hm1 : HM (nE v) (uI m 187 17 0) g := hm
  have em1 : EM (uI m 187 17 0) v := hE
  have hp1 : PlO v (uI m 187 17 0) op := hp.fx f1 rfl rfl rfl rfl
  refine v_X12_mean (d := d + 177) ?_
  generalize uI m 187 17 0 = m1 at w1 f1 hm1 em1 hp1 ⊢
  have F1 : Fx (RS [20, 22, 24, 26, 28, 34, 35, 49]) m m1 := (Fx.rf (S := RS [20, 22, 24, 26, 28, 34, 35, 49])).tr f1 (RS_sub rfl)
  have no : ¬ (InD (nE v) x1 ∧ InD (aE v) x2) → nQ v g m (meanA v op x1 x2 g) (some (.int (-1))) m1 := fun z => by
    have e : meanA v op x1 x2 g = -1 := if_neg z
    rw [e]
    exact ⟨w1, F1, hm1, rfl⟩
  refine (sideM (d := d + 176) (x := x1) em1.1 n8).to ?_
  rintro _ m2 ⟨eq, v1, rfl, y1, y2⟩
  obtain rfl := eq.symm
  refine ⟨v1, rfl, fun c => no (fun z => y1 c z.1), fun c => (knowM (d := d + 176) (x := x2) em1.2.1 (by have := em1.2.2.2.1; omega)).to ?_⟩
  rintro _ m2 ⟨eq, v2, rfl, y3, y4⟩
  obtain rfl := eq.symm
  refine ⟨v2, rfl, fun c => no (fun z => y3 c z.2), fun c2 => ?_⟩
  have hin : InD (nE v) x1 ∧ InD (aE v) x2 := ⟨y2 c, y4 c2⟩
  refine ⟨fun c => ?_, fun c => ?_⟩
  · cases op with
    | none => exact absurd (hp1.mm.mpr rfl) c
    | some pl =>
      obtain ⟨hok, -, hP⟩ := hp1
      have eA : meanA v (some pl) x1 x2 g = (match (seaG v pl g).1 with | none => (-3 : Int32) | some _ => 0) := if_pos hin
      rw [eA]
      obtain ⟨s, hs, rfl⟩ := (show InN (nE v) x1 from hin.1).of
      obtain ⟨a, ha, rfl⟩ := (show InN (aE v) x2 from hin.2).of
      have h4 := em1.2.2.2.1
      refine (findRestX (d := d) hok w1 hm1 em1 hz hP).to ?_
      rintro r m2 ⟨w2, f2, hm2, hl2, em2, sm2, q⟩
      have F2 := F1.tr f2 (RS_sub (l2 := [20, 22, 24, 26, 28, 34, 35, 49]) rfl)
      rcases q with ⟨i, l, e, hi, rfl, c5, c6, l1, l2⟩ | ⟨e, rfl⟩
      · refine ⟨1, rfl, fun _ => ?_, fun q => absurd q (by decide)⟩
        rw [e, c5]
        have ts : (nI s).toInt = (s : Int) := nI_toInt (by omega)
        have ta : (nI a).toInt = (a : Int) := nI_toInt (by omega)
        have L : ∀ k j (m3 : Wm) (y3 : Int64), j + k = i + l → WT m3 → Fx (RS []) m2 m3 → AW ad E0 μX12_mean (d + 178) (nQ v g m 0) 48 [(0, .ref (ad 187)), (1, .int (nI s)), (2, .int (nI a)), (3, .long y3), (5, .int (nI j))] [] m3 := by
          intro k
          induction k with
          | zero =>
            intro j m3 y3 hj w3 f3
            obtain rfl : j = i + l := hj
            have e5 : m3.1 187 45 = nI i := (f3.at (nRS (ρ := 35) rfl rfl)).trans c5
            have e6 : m3.1 187 46 = nI l := (f3.at (nRS (ρ := 35) rfl rfl)).trans c6
            refine g_X12_mean_48 (d := d + 177) ⟨fun _ => ?_, fun z => absurd (by rw [e5, e6, nI_add]; exact (nI_leI (by omega) (by omega)).mpr (Nat.le_refl _)) z⟩
            have w4 : WT (uI m3 187 16 (0 : Int32)) := w3.t rfl (by decide) (by decide)
            have f4 : Fx (RS [26]) m3 (uI m3 187 16 (0 : Int32)) := Fx.i Fx.rf rfl
            have hm4 : HM (nE v) (uI m3 187 16 (0 : Int32)) g := (hm2.fx f3 rfl rfl).fx f4 rfl rfl
            have ne : ((uI m3 187 16 (0 : Int32)).1 187 46).toInt64 ≠ 0 := by
              have e7 : (uI m3 187 16 (0 : Int32)).1 187 46 = nI l := e6
              rw [e7]
              exact wide_ne (by rw [nI_toInt (by omega)]; omega)
            refine (s_X12_tellPart (d := d + 37) w4 ne (by rw [u_eq]; decide)).to ?_
            rintro _ m5 ⟨w5, f5, rfl, -⟩
            exact ⟨rfl, w5, (((F2.tr f3 (RS_sub rfl)).tr f4 (RS_sub rfl)).tr f5 (RS_sub rfl)), hm4.fx f5 rfl rfl, rfl⟩
          | succ k ih =>
            intro j m3 y3 hj w3 f3
            have e5 : m3.1 187 45 = nI i := (f3.at (nRS (ρ := 35) rfl rfl)).trans c5
            have e6 : m3.1 187 46 = nI l := (f3.at (nRS (ρ := 35) rfl rfl)).trans c6
            have tj : (nI j).toInt = (j : Int) := nI_toInt (by omega)
            refine g_X12_mean_48 (d := d + 177) ⟨fun z => absurd (by rw [e5, e6, nI_add] at z; exact (nI_leI (by omega) (by omega)).mp z) (by omega), fun _ => (s_X12_skillIn w3 (by omega) (by omega) (by omega) (by omega) (by omega) (by omega)).to ?_⟩
            rintro _ m4 ⟨w4, f4, v4, rfl⟩
            rw [nI_1]
            exact ⟨v4, rfl, ih (j + 1) m4 _ (by omega) w4 (f3.tr f4 (RS_sub rfl))⟩
        exact L l i m2 0 rfl w2 Fx.rf
      · exact ⟨0, rfl, fun q => absurd rfl q, fun _ => ⟨w2, F2, hm2, by rw [e]⟩⟩
  · have e := hp1.mm.mp c
    subst e
    have eA : meanA v none x1 x2 g = -1 := if_pos hin
    rw [eA]
    exact ⟨w1, F1, hm1, rfl⟩
theorem e_soonM {op : Option PLN} {x1 x2 x3 : Int32} (w0 : WT m) (hm : HM (nE v) m g) (hE : EM m v) (hz : ZB v g) (hp : PlO v m op) : Ct ad μX12_soon (d + 178) [.ref (ad 187), .int x1, .int x2, .int x3] m (nQ v g m (soonA v op x1 x2 x3 g)) := by
  have n8 := hE.2.2.1
  have w1 : WT (uI m 187 17 0) := w0.n rfl
  have f1 : Fx (RS [20]) m (uI m 187 17 0) := Fx.i Fx.rf rfl
  have hm1 : HM (nE v) (uI m 187 17 0) g := hm
  have em1 : EM (uI m 187 17 0) v := hE
  have hp1 : PlO v (uI m 187 17 0) op := hp.fx f1 rfl rfl rfl rfl
  refine v_X12_soon (d := d + 177) ?_
  generalize uI m 187 17 0 = m1 at w1 f1 hm1 em1 hp1 ⊢
  have F1 : Fx (RS [20, 22, 24, 26, 28, 34, 35, 49]) m m1 := (Fx.rf (S := RS [20, 22, 24, 26, 28, 34, 35, 49])).tr f1 (RS_sub rfl)
  have no : ¬ (InD (nE v) x1 ∧ InD (aE v) x2 ∧ 0 ≤ x3.toInt ∧ x3.toInt ≤ 7) → nQ v g m (soonA v op x1 x2 x3 g) (some (.int (-1))) m1 := fun z => by
    have e : soonA v op x1 x2 x3 g = -1 := if_neg z
    rw [e]
    exact ⟨w1, F1, hm1, rfl⟩
  refine (sideM (d := d + 176) (x := x1) em1.1 n8).to ?_
  rintro _ m2 ⟨eq, v1, rfl, y1, y2⟩
  obtain rfl := eq.symm
  refine ⟨v1, rfl, fun c => no (fun z => y1 c z.1), fun c => (knowM (d := d + 176) (x := x2) em1.2.1 (by have := em1.2.2.2.1; omega)).to ?_⟩
  rintro _ m2 ⟨eq, v2, rfl, y3, y4⟩
  obtain rfl := eq.symm
  refine ⟨v2, rfl, fun c => no (fun z => y3 c z.2.1), fun c2 => (inM (d := d + 177) (x := x3) (lo := 0) (hi := 7) rfl rfl).to ?_⟩
  rintro _ m2 ⟨eq, v3, rfl, y5, y6⟩
  obtain rfl := eq.symm
  have z0 : (0 : Int32).toInt = 0 := rfl
  have z7 : (7 : Int32).toInt = 7 := rfl
  refine ⟨v3, rfl, fun c3 => no (fun z => y5 c3 ⟨by omega, by omega⟩), fun c3 => ?_⟩
  have h1 := y2 c
  have h2 := y4 c2
  have h3 := y6 c3
  obtain ⟨s, hs, rfl⟩ := h1.of
  obtain ⟨a, ha, rfl⟩ := h2.of
  have h4 := em1.2.2.2.1
  refine ⟨fun c => ?_, fun c => ?_⟩
  · cases op with
    | none => exact absurd (hp1.mm.mpr rfl) c
    | some pl =>
      obtain ⟨hok, -, hP⟩ := hp1
      have eA : soonA v (some pl) (nI s) (nI a) x3 g = soA (seaG v pl g).1 (fstI (skB (seaG v pl g).2 s a x3) (nS (seaG v pl g).2) 0) := by
        unfold soonA
        rw [if_pos ⟨h1, h2, by omega, by omega⟩, nI_clamp (by omega), nI_clamp (by omega)]
      rw [eA]
      refine (findRestX (d := d) hok w1 hm1 em1 hz hP).to ?_
      rintro r m2 ⟨w2, f2, hm2, hl2, em2, sm2, q⟩
      have F2 := F1.tr f2 (RS_sub (l2 := [20, 22, 24, 26, 28, 34, 35, 49]) rfl)
      generalize seaG v pl g = T at sm2 q ⊢
      obtain ⟨o, S⟩ := T
      have hN : nS S ≤ 3000 := sm2.n
      have c43 : m2.1 187 43 = nI (nS S) := sm2.c43
      have L : ∀ (x8 : Int32), ((o = none ∧ x8 = 0) ∨ (∃ i, o = some i ∧ x8 = 1)) → ∀ k i, i + k = nS S → fstI (skB S s a x3) (nS S) 0 = fstI (skB S s a x3) k i → AW ad E0 μX12_soon (d + 178) (nQ v g m (soA o (fstI (skB S s a x3) (nS S) 0))) 51 [(0, .ref (ad 187)), (1, .int (nI s)), (2, .int (nI a)), (3, .int x3), (4, .int x8), (5, .int (nI i))] [] m2 := by
        intro x8 h8 k
        induction k with
        | zero =>
          intro i hi hf
          obtain rfl : i = nS S := hi
          rw [hf]
          refine g_X12_soon_51 (d := d + 177) ⟨fun _ => ⟨fun q8 => ⟨w2, F2, hm2, ?_⟩, fun q8 => ⟨w2, F2, hm2, ?_⟩⟩, fun z => absurd (by rw [c43]; exact (nI_leI (by omega) (by omega)).mpr (Nat.le_refl _)) z⟩
          · rcases h8 with ⟨rfl, -⟩ | ⟨i, -, q⟩
            · rfl
            · rw [q] at q8; exact absurd q8 (by decide)
          · rcases h8 with ⟨-, q⟩ | ⟨i, rfl, -⟩
            · exact absurd q q8
            · rfl
        | succ k ih =>
          intro i hi hf
          obtain ⟨a1, a2, a3⟩ := sm2.2.1 i (show i < nS S by omega)
          refine g_X12_soon_51 (d := d + 177) ⟨fun z => absurd (by rw [c43] at z; exact (nI_leI (by omega) (by omega)).mp z) (by omega), fun _ => (getM (d := d + 177) a1 a2 a3 (by omega) (s := s) (a := a) (by omega) (by omega)).to ?_⟩
          rintro _ m3 ⟨eq, rfl⟩
          obtain rfl := eq.symm
          refine ⟨_, rfl, fun z => ?_, fun z => ⟨w2, F2, hm2, ?_⟩⟩
          · have e1 : skB S s a x3 i = false := by
              have z' : kS S i (4 * s + a) < x3 := z
              unfold skB
              rw [decide_eq_true z']
              rfl
            rw [fst_n e1] at hf
            rw [nI_1]
            exact ih (i + 1) (by omega) hf
          · have e1 : skB S s a x3 i = true := by
              have z' : ¬ kS S i (4 * s + a) < x3 := z
              unfold skB
              rw [decide_eq_false z']
              rfl
            rw [fst_y e1] at hf
            rw [hf]
            rfl
      rcases q with ⟨i, l, e, hi, rfl, -⟩ | ⟨e, rfl⟩
      · exact ⟨1, rfl, L 1 (Or.inr ⟨i, e, rfl⟩) (nS S) 0 (by omega) rfl⟩
      · exact ⟨0, rfl, L 0 (Or.inl ⟨e, rfl⟩) (nS S) 0 (by omega) rfl⟩
  · have e := hp1.mm.mp c
    subst e
    have eA : soonA v none (nI s) (nI a) x3 g = -1 := by
      unfold soonA
      rw [if_pos ⟨h1, h2, by omega, by omega⟩]
    rw [eA]
    exact ⟨w1, F1, hm1, rfl⟩
theorem og_rest (c : Nat) : Both ad d μX11_rest μX12_rest [] (InvK (KX KG c)) (InvK (KX KG (c + 1))) := og_x (R := [2, 9, 10, 12, 14]) (B := [20, 22, 24, 26, 28, 34, 35, 49]) (A := fun v op g => restA v op g) (fun m g v _ w s hc he hz hp => e_restC (d := d + 293) w s hc he hz hp) (fun m g v _ w hm he hz hp => e_restM (d := d + 122) w hm he hz hp) rfl rfl rfl rfl rfl rfl rfl
theorem og_mean (c : Nat) (x1 x2 : Int32) : Both ad d μX11_mean μX12_mean [.int x1, .int x2] (InvK (KX KG c)) (InvK (KX KG (c + 1))) := og_x (R := [2, 9, 10, 12, 14]) (B := [20, 22, 24, 26, 28, 34, 35, 49]) (A := fun v op g => meanA v op x1 x2 g) (fun m g v _ w s hc he hz hp => e_meanC (d := d + 293) w s hc he hz hp) (fun m g v _ w hm he hz hp => e_meanM (d := d + 122) w hm he hz hp) rfl rfl rfl rfl rfl rfl rfl
theorem og_soon (c : Nat) (x1 x2 x3 : Int32) : Both ad d μX11_soon μX12_soon [.int x1, .int x2, .int x3] (InvK (KX KG c)) (InvK (KX KG (c + 1))) := og_x (R := [2, 9, 10, 12, 14]) (B := [20, 22, 24, 26, 28, 34, 35, 49]) (A := fun v op g => soonA v op x1 x2 x3 g) (fun m g v _ w s hc he hz hp => e_soonC (d := d + 293) w s hc he hz hp) (fun m g v _ w hm he hz hp => e_soonM (d := d + 122) w hm he hz hp) rfl rfl rfl rfl rfl rfl rfl
end SEA
end
section
/-! ALL CALLS BUT of AND row, FROM THE INVARIANT TO THE INVARIANT -/
section OPB
variable {ad : Nat → Nat} {d : Nat} {K K' : Wm → Prop}
set_option maxHeartbeats 1000000 in
theorem os_table (hK : KD K K') : Both ad d μX11_table μX12_table [] (InvK K) (InvK K') := fun m I => by
  have hS : (m.1 3 3).toInt = (m.1 187 1).toInt := congrArg _ I.2.1.2.2.1
  have hN : (m.1 0 15).toInt = (m.1 187 52).toInt := congrArg _ I.2.1.2.2.2.2.1
  refine (s_X11_table I.1).to ?_
  rintro _ m1 ⟨w1, f1, v, rfl, p1⟩
  have g1 : (m1.1 187 1).toInt = (m.1 187 1).toInt := congrArg _ (f1.at (nRS (ρ := 23) rfl rfl))
  have g52 : (m1.1 187 52).toInt = (m.1 187 52).toInt := congrArg _ (f1.at (nRS (ρ := 39) rfl rfl))
  refine ⟨v, rfl, (s_X12_table w1).to ?_⟩
  rintro _ m2 ⟨w2, f2, v2, rfl, p2⟩
  exact ⟨congrArg (fun z => some (Value.int z)) ((fa_eq _ _).mpr (by omega)), w2, I.2.1.f2 f1 f2 rfl rfl, hK f1 f2 I.2.2 rfl rfl⟩
theorem ow_count (hK : KD K K') (a : Int32) : BothW ad d μX11_count μX12_count [.int a] (InvK K) (InvK K') := fun m I => by
  refine (s_X11_count I.1).to ?_
  rintro _ m1 ⟨w1, f1, v, rfl⟩
  refine ⟨⟨_, rfl⟩, (s_X12_count w1).to ?_⟩
  rintro _ m2 ⟨w2, f2, v2, rfl⟩
  exact ⟨⟨_, rfl⟩, w2, I.2.1.f2 f1 f2 rfl rfl, hK f1 f2 I.2.2 rfl rfl⟩
theorem rg_or {m1 m2 : Wm} (h : RG m1) (q : (m2.1 187 10 = m1.1 187 10 ∧ m2.1 187 11 = m1.1 187 11) ∨ (m2.1 187 11).toInt = 0 ∨ 1 ≤ (m2.1 187 10).toInt) : RG m2 := by
  unfold RG at h ⊢
  rcases q with ⟨q1, q2⟩ | q | q
  · rw [q1, q2]; exact h
  · exact Or.inl q
  · exact Or.inr q
end OPB
end
section
theorem dL_of_0 : decode cL_of 0 = .ok (.aload_n 3, 1) := dr_45 (by decide +kernel)
theorem dL_of_1 : decode cL_of 1 = .ok (.iconst 0, 1) := dr_3 (by decide +kernel)
theorem dL_of_2 : decode cL_of 2 = .ok (.aload_n 0, 1) := dr_42 (by decide +kernel)
theorem dL_of_3 : decode cL_of 3 = .ok (.iload_n 1, 1) := dr_27 (by decide +kernel)
theorem dL_of_4 : decode cL_of 4 = .ok (.iload_n 2, 1) := dr_28 (by decide +kernel)
theorem dL_of_5 : decode cL_of 5 = .ok (.invokevirtual 7, 3) := dr_182 (by decide +kernel)
theorem dL_of_8 : decode cL_of 8 = .ok (.i2l, 1) := dr_133 (by decide +kernel)
theorem dL_of_9 : decode cL_of 9 = .ok (.lastore, 1) := dr_80 (by decide +kernel)
theorem dL_of_10 : decode cL_of 10 = .ok (.goto 7, 3) := dr_167 (by decide +kernel)
theorem dL_of_13 : decode cL_of 13 = .ok (.astore 4, 2) := dr_58 (by decide +kernel)
theorem dL_of_15 : decode cL_of 15 = .ok (.iconst 1, 1) := dr_4 (by decide +kernel)
theorem dL_of_16 : decode cL_of 16 = .ok (.ireturn, 1) := dr_172 (by decide +kernel)
theorem dL_of_17 : decode cL_of 17 = .ok (.iconst 0, 1) := dr_3 (by decide +kernel)
theorem dL_of_18 : decode cL_of 18 = .ok (.ireturn, 1) := dr_172 (by decide +kernel)
theorem dL_row_0 : decode cL_row 0 = .ok (.aload_n 2, 1) := dr_44 (by decide +kernel)
theorem dL_row_1 : decode cL_row 1 = .ok (.iconst 0, 1) := dr_3 (by decide +kernel)
theorem dL_row_2 : decode cL_row 2 = .ok (.aload_n 0, 1) := dr_42 (by decide +kernel)
theorem dL_row_3 : decode cL_row 3 = .ok (.iload_n 1, 1) := dr_27 (by decide +kernel)
theorem dL_row_4 : decode cL_row 4 = .ok (.invokevirtual 15, 3) := dr_182 (by decide +kernel)
theorem dL_row_7 : decode cL_row 7 = .ok (.lastore, 1) := dr_80 (by decide +kernel)
theorem dL_row_8 : decode cL_row 8 = .ok (.goto 6, 3) := dr_167 (by decide +kernel)
theorem dL_row_11 : decode cL_row 11 = .ok (.astore_n 3, 1) := dr_78 (by decide +kernel)
theorem dL_row_12 : decode cL_row 12 = .ok (.iconst 1, 1) := dr_4 (by decide +kernel)
theorem dL_row_13 : decode cL_row 13 = .ok (.ireturn, 1) := dr_172 (by decide +kernel)
theorem dL_row_14 : decode cL_row 14 = .ok (.iconst 0, 1) := dr_3 (by decide +kernel)
theorem dL_row_15 : decode cL_row 15 = .ok (.ireturn, 1) := dr_172 (by decide +kernel)
theorem dL_law_0 : decode cL_law 0 = .ok (.new 8, 3) := dr_187 (by decide +kernel)
theorem dL_law_3 : decode cL_law 3 = .ok (.dup, 1) := dr_89 (by decide +kernel)
theorem dL_law_4 : decode cL_law 4 = .ok (.invokespecial 19, 3) := dr_183 (by decide +kernel)
theorem dL_law_7 : decode cL_law 7 = .ok (.astore_n 1, 1) := dr_76 (by decide +kernel)
theorem dL_law_8 : decode cL_law 8 = .ok (.new 20, 3) := dr_187 (by decide +kernel)
theorem dL_law_11 : decode cL_law 11 = .ok (.dup, 1) := dr_89 (by decide +kernel)
theorem dL_law_12 : decode cL_law 12 = .ok (.invokespecial 22, 3) := dr_183 (by decide +kernel)
theorem dL_law_15 : decode cL_law 15 = .ok (.astore_n 2, 1) := dr_77 (by decide +kernel)
theorem dL_law_16 : decode cL_law 16 = .ok (.iconst 1, 1) := dr_4 (by decide +kernel)
theorem dL_law_17 : decode cL_law 17 = .ok (.newarray .long, 2) := by decide +kernel
theorem dL_law_19 : decode cL_law 19 = .ok (.astore_n 3, 1) := dr_78 (by decide +kernel)
theorem dL_law_20 : decode cL_law 20 = .ok (.iconst 0, 1) := dr_3 (by decide +kernel)
theorem dL_law_21 : decode cL_law 21 = .ok (.istore 4, 2) := dr_54 (by decide +kernel)
theorem dL_law_23 : decode cL_law 23 = .ok (.iload 4, 2) := dr_21 (by decide +kernel)
theorem dL_law_25 : decode cL_law 25 = .ok (.aload_n 0, 1) := dr_42 (by decide +kernel)
theorem dL_law_26 : decode cL_law 26 = .ok (.arraylength, 1) := dr_190 (by decide +kernel)
theorem dL_law_27 : decode cL_law 27 = .ok (.bipush 6, 2) := dr_16 (by decide +kernel)
theorem dL_law_29 : decode cL_law 29 = .ok (.isub, 1) := dr_100 (by decide +kernel)
theorem dL_law_30 : decode cL_law 30 = .ok (.if_icmp .gt 1498, 3) := dr_163 (by decide +kernel)
theorem dL_law_33 : decode cL_law 33 = .ok (.aload_n 0, 1) := dr_42 (by decide +kernel)
theorem dL_law_34 : decode cL_law 34 = .ok (.iload 4, 2) := dr_21 (by decide +kernel)
theorem dL_law_36 : decode cL_law 36 = .ok (.iaload, 1) := dr_46 (by decide +kernel)
theorem dL_law_37 : decode cL_law 37 = .ok (.bipush 63, 2) := dr_16 (by decide +kernel)
theorem dL_law_39 : decode cL_law 39 = .ok (.iand, 1) := dr_126 (by decide +kernel)
theorem dL_law_40 : decode cL_law 40 = .ok (.tableswitch 1482 0 43 #[192, 217, 242, 255, 268, 281, 318, 358, 395, 468, 521, 558, 571, 620, 657, 706, 719, 756, 781, 806, 819, 844, 857, 870, 883, 920, 969, 1018, 1043, 1092, 1117, 1154, 1179, 1192, 1217, 1266, 1279, 1292, 1329, 1354, 1379, 1404, 1429, 1454], 192) := by decide +kernel
set_option maxRecDepth 100000 in
theorem dL_law_232 : decode cL_law 232 = .ok (.aload_n 1, 1) := dr_43 (by decide +kernel)
set_option maxRecDepth 100000 in
theorem dL_law_233 : decode cL_law 233 = .ok (.aload_n 0, 1) := dr_42 (by decide +kernel)
set_option maxRecDepth 100000 in
theorem dL_law_234 : decode cL_law 234 = .ok (.iload 4, 2) := dr_21 (by decide +kernel)
set_option maxRecDepth 100000 in
theorem dL_law_236 : decode cL_law 236 = .ok (.iconst 1, 1) := dr_4 (by decide +kernel)
set_option maxRecDepth 100000 in
theorem dL_law_237 : decode cL_law 237 = .ok (.iadd, 1) := dr_96 (by decide +kernel)
set_option maxRecDepth 100000 in
theorem dL_law_238 : decode cL_law 238 = .ok (.iaload, 1) := dr_46 (by decide +kernel)
set_option maxRecDepth 100000 in
theorem dL_law_239 : decode cL_law 239 = .ok (.invokevirtual 23, 3) := dr_182 (by decide +kernel)
set_option maxRecDepth 100000 in
theorem dL_law_242 : decode cL_law 242 = .ok (.pop, 1) := dr_87 (by decide +kernel)
set_option maxRecDepth 100000 in
theorem dL_law_243 : decode cL_law 243 = .ok (.aload_n 2, 1) := dr_44 (by decide +kernel)
set_option maxRecDepth 100000 in
theorem dL_law_244 : decode cL_law 244 = .ok (.aload_n 0, 1) := dr_42 (by decide +kernel)
set_option maxRecDepth 100000 in
theorem dL_law_245 : decode cL_law 245 = .ok (.iload 4, 2) := dr_21 (by decide +kernel)
set_option maxRecDepth 100000 in
theorem dL_law_247 : decode cL_law 247 = .ok (.iconst 1, 1) := dr_4 (by decide +kernel)
set_option maxRecDepth 100000 in
theorem dL_law_248 : decode cL_law 248 = .ok (.iadd, 1) := dr_96 (by decide +kernel)
set_option maxRecDepth 100000 in
theorem dL_law_249 : decode cL_law 249 = .ok (.iaload, 1) := dr_46 (by decide +kernel)
set_option maxRecDepth 100000 in
theorem dL_law_250 : decode cL_law 250 = .ok (.invokevirtual 27, 3) := dr_182 (by decide +kernel)
set_option maxRecDepth 100000 in
theorem dL_law_253 : decode cL_law 253 = .ok (.pop, 1) := dr_87 (by decide +kernel)
set_option maxRecDepth 100000 in
theorem dL_law_254 : decode cL_law 254 = .ok (.goto 1268, 3) := dr_167 (by decide +kernel)
set_option maxRecDepth 100000 in
theorem dL_law_257 : decode cL_law 257 = .ok (.aload_n 1, 1) := dr_43 (by decide +kernel)
set_option maxRecDepth 100000 in
theorem dL_law_258 : decode cL_law 258 = .ok (.aload_n 0, 1) := dr_42 (by decide +kernel)
set_option maxRecDepth 100000 in
theorem dL_law_259 : decode cL_law 259 = .ok (.iload 4, 2) := dr_21 (by decide +kernel)
set_option maxRecDepth 100000 in
theorem dL_law_261 : decode cL_law 261 = .ok (.iconst 1, 1) := dr_4 (by decide +kernel)
set_option maxRecDepth 100000 in
theorem dL_law_262 : decode cL_law 262 = .ok (.iadd, 1) := dr_96 (by decide +kernel)
set_option maxRecDepth 100000 in
theorem dL_law_263 : decode cL_law 263 = .ok (.iaload, 1) := dr_46 (by decide +kernel)
set_option maxRecDepth 100000 in
theorem dL_law_264 : decode cL_law 264 = .ok (.invokevirtual 28, 3) := dr_182 (by decide +kernel)
set_option maxRecDepth 100000 in
theorem dL_law_267 : decode cL_law 267 = .ok (.pop, 1) := dr_87 (by decide +kernel)
set_option maxRecDepth 100000 in
theorem dL_law_268 : decode cL_law 268 = .ok (.aload_n 2, 1) := dr_44 (by decide +kernel)
set_option maxRecDepth 100000 in
theorem dL_law_269 : decode cL_law 269 = .ok (.aload_n 0, 1) := dr_42 (by decide +kernel)
set_option maxRecDepth 100000 in
theorem dL_law_270 : decode cL_law 270 = .ok (.iload 4, 2) := dr_21 (by decide +kernel)
set_option maxRecDepth 100000 in
theorem dL_law_272 : decode cL_law 272 = .ok (.iconst 1, 1) := dr_4 (by decide +kernel)
set_option maxRecDepth 100000 in
theorem dL_law_273 : decode cL_law 273 = .ok (.iadd, 1) := dr_96 (by decide +kernel)
set_option maxRecDepth 100000 in
theorem dL_law_274 : decode cL_law 274 = .ok (.iaload, 1) := dr_46 (by decide +kernel)
set_option maxRecDepth 100000 in
theorem dL_law_275 : decode cL_law 275 = .ok (.invokevirtual 32, 3) := dr_182 (by decide +kernel)
set_option maxRecDepth 100000 in
theorem dL_law_278 : decode cL_law 278 = .ok (.pop, 1) := dr_87 (by decide +kernel)
set_option maxRecDepth 100000 in
theorem dL_law_279 : decode cL_law 279 = .ok (.goto 1243, 3) := dr_167 (by decide +kernel)
set_option maxRecDepth 100000 in
theorem dL_law_282 : decode cL_law 282 = .ok (.aload_n 1, 1) := dr_43 (by decide +kernel)
set_option maxRecDepth 100000 in
theorem dL_law_283 : decode cL_law 283 = .ok (.invokevirtual 33, 3) := dr_182 (by decide +kernel)
set_option maxRecDepth 100000 in
theorem dL_law_286 : decode cL_law 286 = .ok (.pop, 1) := dr_87 (by decide +kernel)
set_option maxRecDepth 100000 in
theorem dL_law_287 : decode cL_law 287 = .ok (.aload_n 2, 1) := dr_44 (by decide +kernel)
set_option maxRecDepth 100000 in
theorem dL_law_288 : decode cL_law 288 = .ok (.invokevirtual 37, 3) := dr_182 (by decide +kernel)
set_option maxRecDepth 100000 in
theorem dL_law_291 : decode cL_law 291 = .ok (.pop, 1) := dr_87 (by decide +kernel)
set_option maxRecDepth 100000 in
theorem dL_law_292 : decode cL_law 292 = .ok (.goto 1230, 3) := dr_167 (by decide +kernel)
set_option maxRecDepth 100000 in
theorem dL_law_295 : decode cL_law 295 = .ok (.aload_n 1, 1) := dr_43 (by decide +kernel)
set_option maxRecDepth 100000 in
theorem dL_law_296 : decode cL_law 296 = .ok (.invokevirtual 38, 3) := dr_182 (by decide +kernel)
set_option maxRecDepth 100000 in
theorem dL_law_299 : decode cL_law 299 = .ok (.pop, 1) := dr_87 (by decide +kernel)
set_option maxRecDepth 100000 in
theorem dL_law_300 : decode cL_law 300 = .ok (.aload_n 2, 1) := dr_44 (by decide +kernel)
set_option maxRecDepth 100000 in
theorem dL_law_301 : decode cL_law 301 = .ok (.invokevirtual 41, 3) := dr_182 (by decide +kernel)
set_option maxRecDepth 100000 in
theorem dL_law_304 : decode cL_law 304 = .ok (.pop, 1) := dr_87 (by decide +kernel)
set_option maxRecDepth 100000 in
theorem dL_law_305 : decode cL_law 305 = .ok (.goto 1217, 3) := dr_167 (by decide +kernel)
set_option maxRecDepth 100000 in
theorem dL_law_308 : decode cL_law 308 = .ok (.aload_n 1, 1) := dr_43 (by decide +kernel)
set_option maxRecDepth 100000 in
theorem dL_law_309 : decode cL_law 309 = .ok (.invokevirtual 42, 3) := dr_182 (by decide +kernel)
set_option maxRecDepth 100000 in
theorem dL_law_312 : decode cL_law 312 = .ok (.pop, 1) := dr_87 (by decide +kernel)
set_option maxRecDepth 100000 in
theorem dL_law_313 : decode cL_law 313 = .ok (.aload_n 2, 1) := dr_44 (by decide +kernel)
set_option maxRecDepth 100000 in
theorem dL_law_314 : decode cL_law 314 = .ok (.invokevirtual 45, 3) := dr_182 (by decide +kernel)
set_option maxRecDepth 100000 in
theorem dL_law_317 : decode cL_law 317 = .ok (.pop, 1) := dr_87 (by decide +kernel)
set_option maxRecDepth 100000 in
theorem dL_law_318 : decode cL_law 318 = .ok (.goto 1204, 3) := dr_167 (by decide +kernel)
set_option maxRecDepth 100000 in
theorem dL_law_321 : decode cL_law 321 = .ok (.aload_n 1, 1) := dr_43 (by decide +kernel)
set_option maxRecDepth 100000 in
theorem dL_law_322 : decode cL_law 322 = .ok (.aload_n 0, 1) := dr_42 (by decide +kernel)
set_option maxRecDepth 100000 in
theorem dL_law_323 : decode cL_law 323 = .ok (.iload 4, 2) := dr_21 (by decide +kernel)
set_option maxRecDepth 100000 in
theorem dL_law_325 : decode cL_law 325 = .ok (.iconst 1, 1) := dr_4 (by decide +kernel)
set_option maxRecDepth 100000 in
theorem dL_law_326 : decode cL_law 326 = .ok (.iadd, 1) := dr_96 (by decide +kernel)
set_option maxRecDepth 100000 in
theorem dL_law_327 : decode cL_law 327 = .ok (.iaload, 1) := dr_46 (by decide +kernel)
set_option maxRecDepth 100000 in
theorem dL_law_328 : decode cL_law 328 = .ok (.aload_n 0, 1) := dr_42 (by decide +kernel)
set_option maxRecDepth 100000 in
theorem dL_law_329 : decode cL_law 329 = .ok (.iload 4, 2) := dr_21 (by decide +kernel)
set_option maxRecDepth 100000 in
theorem dL_law_331 : decode cL_law 331 = .ok (.iconst 2, 1) := dr_5 (by decide +kernel)
set_option maxRecDepth 100000 in
theorem dL_law_332 : decode cL_law 332 = .ok (.iadd, 1) := dr_96 (by decide +kernel)
set_option maxRecDepth 100000 in
theorem dL_law_333 : decode cL_law 333 = .ok (.iaload, 1) := dr_46 (by decide +kernel)
set_option maxRecDepth 100000 in
theorem dL_law_334 : decode cL_law 334 = .ok (.invokevirtual 46, 3) := dr_182 (by decide +kernel)
set_option maxRecDepth 100000 in
theorem dL_law_337 : decode cL_law 337 = .ok (.pop, 1) := dr_87 (by decide +kernel)
set_option maxRecDepth 100000 in
theorem dL_law_338 : decode cL_law 338 = .ok (.aload_n 2, 1) := dr_44 (by decide +kernel)
set_option maxRecDepth 100000 in
theorem dL_law_339 : decode cL_law 339 = .ok (.aload_n 0, 1) := dr_42 (by decide +kernel)
set_option maxRecDepth 100000 in
theorem dL_law_340 : decode cL_law 340 = .ok (.iload 4, 2) := dr_21 (by decide +kernel)
set_option maxRecDepth 100000 in
theorem dL_law_342 : decode cL_law 342 = .ok (.iconst 1, 1) := dr_4 (by decide +kernel)
set_option maxRecDepth 100000 in
theorem dL_law_343 : decode cL_law 343 = .ok (.iadd, 1) := dr_96 (by decide +kernel)
set_option maxRecDepth 100000 in
theorem dL_law_344 : decode cL_law 344 = .ok (.iaload, 1) := dr_46 (by decide +kernel)
set_option maxRecDepth 100000 in
theorem dL_law_345 : decode cL_law 345 = .ok (.aload_n 0, 1) := dr_42 (by decide +kernel)
set_option maxRecDepth 100000 in
theorem dL_law_346 : decode cL_law 346 = .ok (.iload 4, 2) := dr_21 (by decide +kernel)
set_option maxRecDepth 100000 in
theorem dL_law_348 : decode cL_law 348 = .ok (.iconst 2, 1) := dr_5 (by decide +kernel)
set_option maxRecDepth 100000 in
theorem dL_law_349 : decode cL_law 349 = .ok (.iadd, 1) := dr_96 (by decide +kernel)
set_option maxRecDepth 100000 in
theorem dL_law_350 : decode cL_law 350 = .ok (.iaload, 1) := dr_46 (by decide +kernel)
set_option maxRecDepth 100000 in
theorem dL_law_351 : decode cL_law 351 = .ok (.invokevirtual 49, 3) := dr_182 (by decide +kernel)
set_option maxRecDepth 100000 in
theorem dL_law_354 : decode cL_law 354 = .ok (.pop, 1) := dr_87 (by decide +kernel)
set_option maxRecDepth 100000 in
theorem dL_law_355 : decode cL_law 355 = .ok (.goto 1167, 3) := dr_167 (by decide +kernel)
set_option maxRecDepth 100000 in
theorem dL_law_358 : decode cL_law 358 = .ok (.aload_n 1, 1) := dr_43 (by decide +kernel)
set_option maxRecDepth 100000 in
theorem dL_law_359 : decode cL_law 359 = .ok (.aload_n 0, 1) := dr_42 (by decide +kernel)
set_option maxRecDepth 100000 in
theorem dL_law_360 : decode cL_law 360 = .ok (.iload 4, 2) := dr_21 (by decide +kernel)
set_option maxRecDepth 100000 in
theorem dL_law_362 : decode cL_law 362 = .ok (.iconst 1, 1) := dr_4 (by decide +kernel)
set_option maxRecDepth 100000 in
theorem dL_law_363 : decode cL_law 363 = .ok (.iadd, 1) := dr_96 (by decide +kernel)
set_option maxRecDepth 100000 in
theorem dL_law_364 : decode cL_law 364 = .ok (.iaload, 1) := dr_46 (by decide +kernel)
set_option maxRecDepth 100000 in
theorem dL_law_365 : decode cL_law 365 = .ok (.aload_n 0, 1) := dr_42 (by decide +kernel)
set_option maxRecDepth 100000 in
theorem dL_law_366 : decode cL_law 366 = .ok (.iload 4, 2) := dr_21 (by decide +kernel)
set_option maxRecDepth 100000 in
theorem dL_law_368 : decode cL_law 368 = .ok (.iconst 2, 1) := dr_5 (by decide +kernel)
set_option maxRecDepth 100000 in
theorem dL_law_369 : decode cL_law 369 = .ok (.iadd, 1) := dr_96 (by decide +kernel)
set_option maxRecDepth 100000 in
theorem dL_law_370 : decode cL_law 370 = .ok (.iaload, 1) := dr_46 (by decide +kernel)
set_option maxRecDepth 100000 in
theorem dL_law_371 : decode cL_law 371 = .ok (.aload_n 3, 1) := dr_45 (by decide +kernel)
set_option maxRecDepth 100000 in
theorem dL_law_372 : decode cL_law 372 = .ok (.invokestatic 50, 3) := dr_184 (by decide +kernel)
set_option maxRecDepth 100000 in
theorem dL_law_375 : decode cL_law 375 = .ok (.istore 5, 2) := dr_54 (by decide +kernel)
set_option maxRecDepth 100000 in
theorem dL_law_377 : decode cL_law 377 = .ok (.aload_n 2, 1) := dr_44 (by decide +kernel)
set_option maxRecDepth 100000 in
theorem dL_law_378 : decode cL_law 378 = .ok (.aload_n 0, 1) := dr_42 (by decide +kernel)
set_option maxRecDepth 100000 in
theorem dL_law_379 : decode cL_law 379 = .ok (.iload 4, 2) := dr_21 (by decide +kernel)
set_option maxRecDepth 100000 in
theorem dL_law_381 : decode cL_law 381 = .ok (.iconst 1, 1) := dr_4 (by decide +kernel)
set_option maxRecDepth 100000 in
theorem dL_law_382 : decode cL_law 382 = .ok (.iadd, 1) := dr_96 (by decide +kernel)
set_option maxRecDepth 100000 in
theorem dL_law_383 : decode cL_law 383 = .ok (.iaload, 1) := dr_46 (by decide +kernel)
set_option maxRecDepth 100000 in
theorem dL_law_384 : decode cL_law 384 = .ok (.aload_n 0, 1) := dr_42 (by decide +kernel)
set_option maxRecDepth 100000 in
theorem dL_law_385 : decode cL_law 385 = .ok (.iload 4, 2) := dr_21 (by decide +kernel)
set_option maxRecDepth 100000 in
theorem dL_law_387 : decode cL_law 387 = .ok (.iconst 2, 1) := dr_5 (by decide +kernel)
set_option maxRecDepth 100000 in
theorem dL_law_388 : decode cL_law 388 = .ok (.iadd, 1) := dr_96 (by decide +kernel)
set_option maxRecDepth 100000 in
theorem dL_law_389 : decode cL_law 389 = .ok (.iaload, 1) := dr_46 (by decide +kernel)
set_option maxRecDepth 100000 in
theorem dL_law_390 : decode cL_law 390 = .ok (.invokevirtual 55, 3) := dr_182 (by decide +kernel)
set_option maxRecDepth 100000 in
theorem dL_law_393 : decode cL_law 393 = .ok (.istore 6, 2) := dr_54 (by decide +kernel)
set_option maxRecDepth 100000 in
theorem dL_law_395 : decode cL_law 395 = .ok (.goto 1127, 3) := dr_167 (by decide +kernel)
set_option maxRecDepth 100000 in
theorem dL_law_398 : decode cL_law 398 = .ok (.aload_n 1, 1) := dr_43 (by decide +kernel)
set_option maxRecDepth 100000 in
theorem dL_law_399 : decode cL_law 399 = .ok (.aload_n 0, 1) := dr_42 (by decide +kernel)
set_option maxRecDepth 100000 in
theorem dL_law_400 : decode cL_law 400 = .ok (.iload 4, 2) := dr_21 (by decide +kernel)
set_option maxRecDepth 100000 in
theorem dL_law_402 : decode cL_law 402 = .ok (.iconst 1, 1) := dr_4 (by decide +kernel)
set_option maxRecDepth 100000 in
theorem dL_law_403 : decode cL_law 403 = .ok (.iadd, 1) := dr_96 (by decide +kernel)
set_option maxRecDepth 100000 in
theorem dL_law_404 : decode cL_law 404 = .ok (.iaload, 1) := dr_46 (by decide +kernel)
set_option maxRecDepth 100000 in
theorem dL_law_405 : decode cL_law 405 = .ok (.aload_n 0, 1) := dr_42 (by decide +kernel)
set_option maxRecDepth 100000 in
theorem dL_law_406 : decode cL_law 406 = .ok (.iload 4, 2) := dr_21 (by decide +kernel)
set_option maxRecDepth 100000 in
theorem dL_law_408 : decode cL_law 408 = .ok (.iconst 2, 1) := dr_5 (by decide +kernel)
set_option maxRecDepth 100000 in
theorem dL_law_409 : decode cL_law 409 = .ok (.iadd, 1) := dr_96 (by decide +kernel)
set_option maxRecDepth 100000 in
theorem dL_law_410 : decode cL_law 410 = .ok (.iaload, 1) := dr_46 (by decide +kernel)
set_option maxRecDepth 100000 in
theorem dL_law_411 : decode cL_law 411 = .ok (.invokevirtual 56, 3) := dr_182 (by decide +kernel)
set_option maxRecDepth 100000 in
theorem dL_law_414 : decode cL_law 414 = .ok (.pop, 1) := dr_87 (by decide +kernel)
set_option maxRecDepth 100000 in
theorem dL_law_415 : decode cL_law 415 = .ok (.aload_n 2, 1) := dr_44 (by decide +kernel)
set_option maxRecDepth 100000 in
theorem dL_law_416 : decode cL_law 416 = .ok (.aload_n 0, 1) := dr_42 (by decide +kernel)
set_option maxRecDepth 100000 in
theorem dL_law_417 : decode cL_law 417 = .ok (.iload 4, 2) := dr_21 (by decide +kernel)
set_option maxRecDepth 100000 in
theorem dL_law_419 : decode cL_law 419 = .ok (.iconst 1, 1) := dr_4 (by decide +kernel)
set_option maxRecDepth 100000 in
theorem dL_law_420 : decode cL_law 420 = .ok (.iadd, 1) := dr_96 (by decide +kernel)
set_option maxRecDepth 100000 in
theorem dL_law_421 : decode cL_law 421 = .ok (.iaload, 1) := dr_46 (by decide +kernel)
set_option maxRecDepth 100000 in
theorem dL_law_422 : decode cL_law 422 = .ok (.aload_n 0, 1) := dr_42 (by decide +kernel)
set_option maxRecDepth 100000 in
theorem dL_law_423 : decode cL_law 423 = .ok (.iload 4, 2) := dr_21 (by decide +kernel)
set_option maxRecDepth 100000 in
theorem dL_law_425 : decode cL_law 425 = .ok (.iconst 2, 1) := dr_5 (by decide +kernel)
set_option maxRecDepth 100000 in
theorem dL_law_426 : decode cL_law 426 = .ok (.iadd, 1) := dr_96 (by decide +kernel)
set_option maxRecDepth 100000 in
theorem dL_law_427 : decode cL_law 427 = .ok (.iaload, 1) := dr_46 (by decide +kernel)
set_option maxRecDepth 100000 in
theorem dL_law_428 : decode cL_law 428 = .ok (.invokevirtual 59, 3) := dr_182 (by decide +kernel)
set_option maxRecDepth 100000 in
theorem dL_law_431 : decode cL_law 431 = .ok (.pop, 1) := dr_87 (by decide +kernel)
set_option maxRecDepth 100000 in
theorem dL_law_432 : decode cL_law 432 = .ok (.goto 1090, 3) := dr_167 (by decide +kernel)
set_option maxRecDepth 100000 in
theorem dL_law_435 : decode cL_law 435 = .ok (.aload_n 1, 1) := dr_43 (by decide +kernel)
set_option maxRecDepth 100000 in
theorem dL_law_436 : decode cL_law 436 = .ok (.aload_n 0, 1) := dr_42 (by decide +kernel)
set_option maxRecDepth 100000 in
theorem dL_law_437 : decode cL_law 437 = .ok (.iload 4, 2) := dr_21 (by decide +kernel)
set_option maxRecDepth 100000 in
theorem dL_law_439 : decode cL_law 439 = .ok (.iconst 1, 1) := dr_4 (by decide +kernel)
set_option maxRecDepth 100000 in
theorem dL_law_440 : decode cL_law 440 = .ok (.iadd, 1) := dr_96 (by decide +kernel)
set_option maxRecDepth 100000 in
theorem dL_law_441 : decode cL_law 441 = .ok (.iaload, 1) := dr_46 (by decide +kernel)
set_option maxRecDepth 100000 in
theorem dL_law_442 : decode cL_law 442 = .ok (.aload_n 0, 1) := dr_42 (by decide +kernel)
set_option maxRecDepth 100000 in
theorem dL_law_443 : decode cL_law 443 = .ok (.iload 4, 2) := dr_21 (by decide +kernel)
set_option maxRecDepth 100000 in
theorem dL_law_445 : decode cL_law 445 = .ok (.iconst 2, 1) := dr_5 (by decide +kernel)
set_option maxRecDepth 100000 in
theorem dL_law_446 : decode cL_law 446 = .ok (.iadd, 1) := dr_96 (by decide +kernel)
set_option maxRecDepth 100000 in
theorem dL_law_447 : decode cL_law 447 = .ok (.iaload, 1) := dr_46 (by decide +kernel)
set_option maxRecDepth 100000 in
theorem dL_law_448 : decode cL_law 448 = .ok (.aload_n 0, 1) := dr_42 (by decide +kernel)
set_option maxRecDepth 100000 in
theorem dL_law_449 : decode cL_law 449 = .ok (.iload 4, 2) := dr_21 (by decide +kernel)
set_option maxRecDepth 100000 in
theorem dL_law_451 : decode cL_law 451 = .ok (.iconst 3, 1) := dr_6 (by decide +kernel)
set_option maxRecDepth 100000 in
theorem dL_law_452 : decode cL_law 452 = .ok (.iadd, 1) := dr_96 (by decide +kernel)
set_option maxRecDepth 100000 in
theorem dL_law_453 : decode cL_law 453 = .ok (.iaload, 1) := dr_46 (by decide +kernel)
set_option maxRecDepth 100000 in
theorem dL_law_454 : decode cL_law 454 = .ok (.aload_n 0, 1) := dr_42 (by decide +kernel)
set_option maxRecDepth 100000 in
theorem dL_law_455 : decode cL_law 455 = .ok (.iload 4, 2) := dr_21 (by decide +kernel)
set_option maxRecDepth 100000 in
theorem dL_law_457 : decode cL_law 457 = .ok (.iconst 4, 1) := dr_7 (by decide +kernel)
set_option maxRecDepth 100000 in
theorem dL_law_458 : decode cL_law 458 = .ok (.iadd, 1) := dr_96 (by decide +kernel)
set_option maxRecDepth 100000 in
theorem dL_law_459 : decode cL_law 459 = .ok (.iaload, 1) := dr_46 (by decide +kernel)
set_option maxRecDepth 100000 in
theorem dL_law_460 : decode cL_law 460 = .ok (.aload_n 0, 1) := dr_42 (by decide +kernel)
set_option maxRecDepth 100000 in
theorem dL_law_461 : decode cL_law 461 = .ok (.iload 4, 2) := dr_21 (by decide +kernel)
set_option maxRecDepth 100000 in
theorem dL_law_463 : decode cL_law 463 = .ok (.iconst 5, 1) := dr_8 (by decide +kernel)
set_option maxRecDepth 100000 in
theorem dL_law_464 : decode cL_law 464 = .ok (.iadd, 1) := dr_96 (by decide +kernel)
set_option maxRecDepth 100000 in
theorem dL_law_465 : decode cL_law 465 = .ok (.iaload, 1) := dr_46 (by decide +kernel)
set_option maxRecDepth 100000 in
theorem dL_law_466 : decode cL_law 466 = .ok (.invokevirtual 60, 3) := dr_182 (by decide +kernel)
set_option maxRecDepth 100000 in
theorem dL_law_469 : decode cL_law 469 = .ok (.pop, 1) := dr_87 (by decide +kernel)
set_option maxRecDepth 100000 in
theorem dL_law_470 : decode cL_law 470 = .ok (.aload_n 2, 1) := dr_44 (by decide +kernel)
set_option maxRecDepth 100000 in
theorem dL_law_471 : decode cL_law 471 = .ok (.aload_n 0, 1) := dr_42 (by decide +kernel)
set_option maxRecDepth 100000 in
theorem dL_law_472 : decode cL_law 472 = .ok (.iload 4, 2) := dr_21 (by decide +kernel)
set_option maxRecDepth 100000 in
theorem dL_law_474 : decode cL_law 474 = .ok (.iconst 1, 1) := dr_4 (by decide +kernel)
set_option maxRecDepth 100000 in
theorem dL_law_475 : decode cL_law 475 = .ok (.iadd, 1) := dr_96 (by decide +kernel)
set_option maxRecDepth 100000 in
theorem dL_law_476 : decode cL_law 476 = .ok (.iaload, 1) := dr_46 (by decide +kernel)
set_option maxRecDepth 100000 in
theorem dL_law_477 : decode cL_law 477 = .ok (.aload_n 0, 1) := dr_42 (by decide +kernel)
set_option maxRecDepth 100000 in
theorem dL_law_478 : decode cL_law 478 = .ok (.iload 4, 2) := dr_21 (by decide +kernel)
set_option maxRecDepth 100000 in
theorem dL_law_480 : decode cL_law 480 = .ok (.iconst 2, 1) := dr_5 (by decide +kernel)
set_option maxRecDepth 100000 in
theorem dL_law_481 : decode cL_law 481 = .ok (.iadd, 1) := dr_96 (by decide +kernel)
set_option maxRecDepth 100000 in
theorem dL_law_482 : decode cL_law 482 = .ok (.iaload, 1) := dr_46 (by decide +kernel)
set_option maxRecDepth 100000 in
theorem dL_law_483 : decode cL_law 483 = .ok (.aload_n 0, 1) := dr_42 (by decide +kernel)
set_option maxRecDepth 100000 in
theorem dL_law_484 : decode cL_law 484 = .ok (.iload 4, 2) := dr_21 (by decide +kernel)
set_option maxRecDepth 100000 in
theorem dL_law_486 : decode cL_law 486 = .ok (.iconst 3, 1) := dr_6 (by decide +kernel)
set_option maxRecDepth 100000 in
theorem dL_law_487 : decode cL_law 487 = .ok (.iadd, 1) := dr_96 (by decide +kernel)
set_option maxRecDepth 100000 in
theorem dL_law_488 : decode cL_law 488 = .ok (.iaload, 1) := dr_46 (by decide +kernel)
set_option maxRecDepth 100000 in
theorem dL_law_489 : decode cL_law 489 = .ok (.aload_n 0, 1) := dr_42 (by decide +kernel)
set_option maxRecDepth 100000 in
theorem dL_law_490 : decode cL_law 490 = .ok (.iload 4, 2) := dr_21 (by decide +kernel)
set_option maxRecDepth 100000 in
theorem dL_law_492 : decode cL_law 492 = .ok (.iconst 4, 1) := dr_7 (by decide +kernel)
set_option maxRecDepth 100000 in
theorem dL_law_493 : decode cL_law 493 = .ok (.iadd, 1) := dr_96 (by decide +kernel)
set_option maxRecDepth 100000 in
theorem dL_law_494 : decode cL_law 494 = .ok (.iaload, 1) := dr_46 (by decide +kernel)
set_option maxRecDepth 100000 in
theorem dL_law_495 : decode cL_law 495 = .ok (.aload_n 0, 1) := dr_42 (by decide +kernel)
set_option maxRecDepth 100000 in
theorem dL_law_496 : decode cL_law 496 = .ok (.iload 4, 2) := dr_21 (by decide +kernel)
set_option maxRecDepth 100000 in
theorem dL_law_498 : decode cL_law 498 = .ok (.iconst 5, 1) := dr_8 (by decide +kernel)
set_option maxRecDepth 100000 in
theorem dL_law_499 : decode cL_law 499 = .ok (.iadd, 1) := dr_96 (by decide +kernel)
set_option maxRecDepth 100000 in
theorem dL_law_500 : decode cL_law 500 = .ok (.iaload, 1) := dr_46 (by decide +kernel)
set_option maxRecDepth 100000 in
theorem dL_law_501 : decode cL_law 501 = .ok (.invokevirtual 64, 3) := dr_182 (by decide +kernel)
set_option maxRecDepth 100000 in
theorem dL_law_504 : decode cL_law 504 = .ok (.pop, 1) := dr_87 (by decide +kernel)
set_option maxRecDepth 100000 in
theorem dL_law_505 : decode cL_law 505 = .ok (.goto 1017, 3) := dr_167 (by decide +kernel)
set_option maxRecDepth 100000 in
theorem dL_law_508 : decode cL_law 508 = .ok (.aload_n 1, 1) := dr_43 (by decide +kernel)
set_option maxRecDepth 100000 in
theorem dL_law_509 : decode cL_law 509 = .ok (.aload_n 0, 1) := dr_42 (by decide +kernel)
set_option maxRecDepth 100000 in
theorem dL_law_510 : decode cL_law 510 = .ok (.iload 4, 2) := dr_21 (by decide +kernel)
set_option maxRecDepth 100000 in
theorem dL_law_512 : decode cL_law 512 = .ok (.iconst 1, 1) := dr_4 (by decide +kernel)
set_option maxRecDepth 100000 in
theorem dL_law_513 : decode cL_law 513 = .ok (.iadd, 1) := dr_96 (by decide +kernel)
set_option maxRecDepth 100000 in
theorem dL_law_514 : decode cL_law 514 = .ok (.iaload, 1) := dr_46 (by decide +kernel)
set_option maxRecDepth 100000 in
theorem dL_law_515 : decode cL_law 515 = .ok (.aload_n 0, 1) := dr_42 (by decide +kernel)
set_option maxRecDepth 100000 in
theorem dL_law_516 : decode cL_law 516 = .ok (.iload 4, 2) := dr_21 (by decide +kernel)
set_option maxRecDepth 100000 in
theorem dL_law_518 : decode cL_law 518 = .ok (.iconst 2, 1) := dr_5 (by decide +kernel)
set_option maxRecDepth 100000 in
theorem dL_law_519 : decode cL_law 519 = .ok (.iadd, 1) := dr_96 (by decide +kernel)
set_option maxRecDepth 100000 in
theorem dL_law_520 : decode cL_law 520 = .ok (.iaload, 1) := dr_46 (by decide +kernel)
set_option maxRecDepth 100000 in
theorem dL_law_521 : decode cL_law 521 = .ok (.ifCond .eq 7, 3) := dr_153 (by decide +kernel)
set_option maxRecDepth 100000 in
theorem dL_law_524 : decode cL_law 524 = .ok (.iconst 1, 1) := dr_4 (by decide +kernel)
set_option maxRecDepth 100000 in
theorem dL_law_525 : decode cL_law 525 = .ok (.goto 4, 3) := dr_167 (by decide +kernel)
set_option maxRecDepth 100000 in
theorem dL_law_528 : decode cL_law 528 = .ok (.iconst 0, 1) := dr_3 (by decide +kernel)
set_option maxRecDepth 100000 in
theorem dL_law_529 : decode cL_law 529 = .ok (.invokevirtual 65, 3) := dr_182 (by decide +kernel)
set_option maxRecDepth 100000 in
theorem dL_law_532 : decode cL_law 532 = .ok (.pop, 1) := dr_87 (by decide +kernel)
set_option maxRecDepth 100000 in
theorem dL_law_533 : decode cL_law 533 = .ok (.aload_n 2, 1) := dr_44 (by decide +kernel)
set_option maxRecDepth 100000 in
theorem dL_law_534 : decode cL_law 534 = .ok (.aload_n 0, 1) := dr_42 (by decide +kernel)
set_option maxRecDepth 100000 in
theorem dL_law_535 : decode cL_law 535 = .ok (.iload 4, 2) := dr_21 (by decide +kernel)
set_option maxRecDepth 100000 in
theorem dL_law_537 : decode cL_law 537 = .ok (.iconst 1, 1) := dr_4 (by decide +kernel)
set_option maxRecDepth 100000 in
theorem dL_law_538 : decode cL_law 538 = .ok (.iadd, 1) := dr_96 (by decide +kernel)
set_option maxRecDepth 100000 in
theorem dL_law_539 : decode cL_law 539 = .ok (.iaload, 1) := dr_46 (by decide +kernel)
set_option maxRecDepth 100000 in
theorem dL_law_540 : decode cL_law 540 = .ok (.aload_n 0, 1) := dr_42 (by decide +kernel)
set_option maxRecDepth 100000 in
theorem dL_law_541 : decode cL_law 541 = .ok (.iload 4, 2) := dr_21 (by decide +kernel)
set_option maxRecDepth 100000 in
theorem dL_law_543 : decode cL_law 543 = .ok (.iconst 2, 1) := dr_5 (by decide +kernel)
set_option maxRecDepth 100000 in
theorem dL_law_544 : decode cL_law 544 = .ok (.iadd, 1) := dr_96 (by decide +kernel)
set_option maxRecDepth 100000 in
theorem dL_law_545 : decode cL_law 545 = .ok (.iaload, 1) := dr_46 (by decide +kernel)
set_option maxRecDepth 100000 in
theorem dL_law_546 : decode cL_law 546 = .ok (.ifCond .eq 7, 3) := dr_153 (by decide +kernel)
set_option maxRecDepth 100000 in
theorem dL_law_549 : decode cL_law 549 = .ok (.iconst 1, 1) := dr_4 (by decide +kernel)
set_option maxRecDepth 100000 in
theorem dL_law_550 : decode cL_law 550 = .ok (.goto 4, 3) := dr_167 (by decide +kernel)
set_option maxRecDepth 100000 in
theorem dL_law_553 : decode cL_law 553 = .ok (.iconst 0, 1) := dr_3 (by decide +kernel)
set_option maxRecDepth 100000 in
theorem dL_law_554 : decode cL_law 554 = .ok (.invokevirtual 69, 3) := dr_182 (by decide +kernel)
set_option maxRecDepth 100000 in
theorem dL_law_557 : decode cL_law 557 = .ok (.pop, 1) := dr_87 (by decide +kernel)
set_option maxRecDepth 100000 in
theorem dL_law_558 : decode cL_law 558 = .ok (.goto 964, 3) := dr_167 (by decide +kernel)
set_option maxRecDepth 100000 in
theorem dL_law_561 : decode cL_law 561 = .ok (.aload_n 1, 1) := dr_43 (by decide +kernel)
set_option maxRecDepth 100000 in
theorem dL_law_562 : decode cL_law 562 = .ok (.aload_n 0, 1) := dr_42 (by decide +kernel)
set_option maxRecDepth 100000 in
theorem dL_law_563 : decode cL_law 563 = .ok (.iload 4, 2) := dr_21 (by decide +kernel)
set_option maxRecDepth 100000 in
theorem dL_law_565 : decode cL_law 565 = .ok (.iconst 1, 1) := dr_4 (by decide +kernel)
set_option maxRecDepth 100000 in
theorem dL_law_566 : decode cL_law 566 = .ok (.iadd, 1) := dr_96 (by decide +kernel)
set_option maxRecDepth 100000 in
theorem dL_law_567 : decode cL_law 567 = .ok (.iaload, 1) := dr_46 (by decide +kernel)
set_option maxRecDepth 100000 in
theorem dL_law_568 : decode cL_law 568 = .ok (.aload_n 0, 1) := dr_42 (by decide +kernel)
set_option maxRecDepth 100000 in
theorem dL_law_569 : decode cL_law 569 = .ok (.iload 4, 2) := dr_21 (by decide +kernel)
set_option maxRecDepth 100000 in
theorem dL_law_571 : decode cL_law 571 = .ok (.iconst 2, 1) := dr_5 (by decide +kernel)
set_option maxRecDepth 100000 in
theorem dL_law_572 : decode cL_law 572 = .ok (.iadd, 1) := dr_96 (by decide +kernel)
set_option maxRecDepth 100000 in
theorem dL_law_573 : decode cL_law 573 = .ok (.iaload, 1) := dr_46 (by decide +kernel)
set_option maxRecDepth 100000 in
theorem dL_law_574 : decode cL_law 574 = .ok (.invokevirtual 70, 3) := dr_182 (by decide +kernel)
set_option maxRecDepth 100000 in
theorem dL_law_577 : decode cL_law 577 = .ok (.pop, 1) := dr_87 (by decide +kernel)
set_option maxRecDepth 100000 in
theorem dL_law_578 : decode cL_law 578 = .ok (.aload_n 2, 1) := dr_44 (by decide +kernel)
set_option maxRecDepth 100000 in
theorem dL_law_579 : decode cL_law 579 = .ok (.aload_n 0, 1) := dr_42 (by decide +kernel)
set_option maxRecDepth 100000 in
theorem dL_law_580 : decode cL_law 580 = .ok (.iload 4, 2) := dr_21 (by decide +kernel)
set_option maxRecDepth 100000 in
theorem dL_law_582 : decode cL_law 582 = .ok (.iconst 1, 1) := dr_4 (by decide +kernel)
set_option maxRecDepth 100000 in
theorem dL_law_583 : decode cL_law 583 = .ok (.iadd, 1) := dr_96 (by decide +kernel)
set_option maxRecDepth 100000 in
theorem dL_law_584 : decode cL_law 584 = .ok (.iaload, 1) := dr_46 (by decide +kernel)
set_option maxRecDepth 100000 in
theorem dL_law_585 : decode cL_law 585 = .ok (.aload_n 0, 1) := dr_42 (by decide +kernel)
set_option maxRecDepth 100000 in
theorem dL_law_586 : decode cL_law 586 = .ok (.iload 4, 2) := dr_21 (by decide +kernel)
set_option maxRecDepth 100000 in
theorem dL_law_588 : decode cL_law 588 = .ok (.iconst 2, 1) := dr_5 (by decide +kernel)
set_option maxRecDepth 100000 in
theorem dL_law_589 : decode cL_law 589 = .ok (.iadd, 1) := dr_96 (by decide +kernel)
set_option maxRecDepth 100000 in
theorem dL_law_590 : decode cL_law 590 = .ok (.iaload, 1) := dr_46 (by decide +kernel)
set_option maxRecDepth 100000 in
theorem dL_law_591 : decode cL_law 591 = .ok (.invokevirtual 74, 3) := dr_182 (by decide +kernel)
set_option maxRecDepth 100000 in
theorem dL_law_594 : decode cL_law 594 = .ok (.pop, 1) := dr_87 (by decide +kernel)
set_option maxRecDepth 100000 in
theorem dL_law_595 : decode cL_law 595 = .ok (.goto 927, 3) := dr_167 (by decide +kernel)
set_option maxRecDepth 100000 in
theorem dL_law_598 : decode cL_law 598 = .ok (.aload_n 1, 1) := dr_43 (by decide +kernel)
set_option maxRecDepth 100000 in
theorem dL_law_599 : decode cL_law 599 = .ok (.invokevirtual 75, 3) := dr_182 (by decide +kernel)
set_option maxRecDepth 100000 in
theorem dL_law_602 : decode cL_law 602 = .ok (.pop, 1) := dr_87 (by decide +kernel)
set_option maxRecDepth 100000 in
theorem dL_law_603 : decode cL_law 603 = .ok (.aload_n 2, 1) := dr_44 (by decide +kernel)
set_option maxRecDepth 100000 in
theorem dL_law_604 : decode cL_law 604 = .ok (.invokevirtual 78, 3) := dr_182 (by decide +kernel)
set_option maxRecDepth 100000 in
theorem dL_law_607 : decode cL_law 607 = .ok (.pop, 1) := dr_87 (by decide +kernel)
set_option maxRecDepth 100000 in
theorem dL_law_608 : decode cL_law 608 = .ok (.goto 914, 3) := dr_167 (by decide +kernel)
set_option maxRecDepth 100000 in
theorem dL_law_611 : decode cL_law 611 = .ok (.aload_n 1, 1) := dr_43 (by decide +kernel)
set_option maxRecDepth 100000 in
theorem dL_law_612 : decode cL_law 612 = .ok (.aload_n 0, 1) := dr_42 (by decide +kernel)
set_option maxRecDepth 100000 in
theorem dL_law_613 : decode cL_law 613 = .ok (.iload 4, 2) := dr_21 (by decide +kernel)
set_option maxRecDepth 100000 in
theorem dL_law_615 : decode cL_law 615 = .ok (.iconst 1, 1) := dr_4 (by decide +kernel)
set_option maxRecDepth 100000 in
theorem dL_law_616 : decode cL_law 616 = .ok (.iadd, 1) := dr_96 (by decide +kernel)
set_option maxRecDepth 100000 in
theorem dL_law_617 : decode cL_law 617 = .ok (.iaload, 1) := dr_46 (by decide +kernel)
set_option maxRecDepth 100000 in
theorem dL_law_618 : decode cL_law 618 = .ok (.aload_n 0, 1) := dr_42 (by decide +kernel)
set_option maxRecDepth 100000 in
theorem dL_law_619 : decode cL_law 619 = .ok (.iload 4, 2) := dr_21 (by decide +kernel)
set_option maxRecDepth 100000 in
theorem dL_law_621 : decode cL_law 621 = .ok (.iconst 2, 1) := dr_5 (by decide +kernel)
set_option maxRecDepth 100000 in
theorem dL_law_622 : decode cL_law 622 = .ok (.iadd, 1) := dr_96 (by decide +kernel)
set_option maxRecDepth 100000 in
theorem dL_law_623 : decode cL_law 623 = .ok (.iaload, 1) := dr_46 (by decide +kernel)
set_option maxRecDepth 100000 in
theorem dL_law_624 : decode cL_law 624 = .ok (.aload_n 0, 1) := dr_42 (by decide +kernel)
set_option maxRecDepth 100000 in
theorem dL_law_625 : decode cL_law 625 = .ok (.iload 4, 2) := dr_21 (by decide +kernel)
set_option maxRecDepth 100000 in
theorem dL_law_627 : decode cL_law 627 = .ok (.iconst 3, 1) := dr_6 (by decide +kernel)
set_option maxRecDepth 100000 in
theorem dL_law_628 : decode cL_law 628 = .ok (.iadd, 1) := dr_96 (by decide +kernel)
set_option maxRecDepth 100000 in
theorem dL_law_629 : decode cL_law 629 = .ok (.iaload, 1) := dr_46 (by decide +kernel)
set_option maxRecDepth 100000 in
theorem dL_law_630 : decode cL_law 630 = .ok (.invokevirtual 79, 3) := dr_182 (by decide +kernel)
set_option maxRecDepth 100000 in
theorem dL_law_633 : decode cL_law 633 = .ok (.pop, 1) := dr_87 (by decide +kernel)
set_option maxRecDepth 100000 in
theorem dL_law_634 : decode cL_law 634 = .ok (.aload_n 2, 1) := dr_44 (by decide +kernel)
set_option maxRecDepth 100000 in
theorem dL_law_635 : decode cL_law 635 = .ok (.aload_n 0, 1) := dr_42 (by decide +kernel)
set_option maxRecDepth 100000 in
theorem dL_law_636 : decode cL_law 636 = .ok (.iload 4, 2) := dr_21 (by decide +kernel)
set_option maxRecDepth 100000 in
theorem dL_law_638 : decode cL_law 638 = .ok (.iconst 1, 1) := dr_4 (by decide +kernel)
set_option maxRecDepth 100000 in
theorem dL_law_639 : decode cL_law 639 = .ok (.iadd, 1) := dr_96 (by decide +kernel)
set_option maxRecDepth 100000 in
theorem dL_law_640 : decode cL_law 640 = .ok (.iaload, 1) := dr_46 (by decide +kernel)
set_option maxRecDepth 100000 in
theorem dL_law_641 : decode cL_law 641 = .ok (.aload_n 0, 1) := dr_42 (by decide +kernel)
set_option maxRecDepth 100000 in
theorem dL_law_642 : decode cL_law 642 = .ok (.iload 4, 2) := dr_21 (by decide +kernel)
set_option maxRecDepth 100000 in
theorem dL_law_644 : decode cL_law 644 = .ok (.iconst 2, 1) := dr_5 (by decide +kernel)
set_option maxRecDepth 100000 in
theorem dL_law_645 : decode cL_law 645 = .ok (.iadd, 1) := dr_96 (by decide +kernel)
set_option maxRecDepth 100000 in
theorem dL_law_646 : decode cL_law 646 = .ok (.iaload, 1) := dr_46 (by decide +kernel)
set_option maxRecDepth 100000 in
theorem dL_law_647 : decode cL_law 647 = .ok (.aload_n 0, 1) := dr_42 (by decide +kernel)
set_option maxRecDepth 100000 in
theorem dL_law_648 : decode cL_law 648 = .ok (.iload 4, 2) := dr_21 (by decide +kernel)
set_option maxRecDepth 100000 in
theorem dL_law_650 : decode cL_law 650 = .ok (.iconst 3, 1) := dr_6 (by decide +kernel)
set_option maxRecDepth 100000 in
theorem dL_law_651 : decode cL_law 651 = .ok (.iadd, 1) := dr_96 (by decide +kernel)
set_option maxRecDepth 100000 in
theorem dL_law_652 : decode cL_law 652 = .ok (.iaload, 1) := dr_46 (by decide +kernel)
set_option maxRecDepth 100000 in
theorem dL_law_653 : decode cL_law 653 = .ok (.invokevirtual 83, 3) := dr_182 (by decide +kernel)
set_option maxRecDepth 100000 in
theorem dL_law_656 : decode cL_law 656 = .ok (.pop, 1) := dr_87 (by decide +kernel)
set_option maxRecDepth 100000 in
theorem dL_law_657 : decode cL_law 657 = .ok (.goto 865, 3) := dr_167 (by decide +kernel)
set_option maxRecDepth 100000 in
theorem dL_law_660 : decode cL_law 660 = .ok (.aload_n 1, 1) := dr_43 (by decide +kernel)
set_option maxRecDepth 100000 in
theorem dL_law_661 : decode cL_law 661 = .ok (.aload_n 0, 1) := dr_42 (by decide +kernel)
set_option maxRecDepth 100000 in
theorem dL_law_662 : decode cL_law 662 = .ok (.iload 4, 2) := dr_21 (by decide +kernel)
set_option maxRecDepth 100000 in
theorem dL_law_664 : decode cL_law 664 = .ok (.iconst 1, 1) := dr_4 (by decide +kernel)
set_option maxRecDepth 100000 in
theorem dL_law_665 : decode cL_law 665 = .ok (.iadd, 1) := dr_96 (by decide +kernel)
set_option maxRecDepth 100000 in
theorem dL_law_666 : decode cL_law 666 = .ok (.iaload, 1) := dr_46 (by decide +kernel)
set_option maxRecDepth 100000 in
theorem dL_law_667 : decode cL_law 667 = .ok (.aload_n 0, 1) := dr_42 (by decide +kernel)
set_option maxRecDepth 100000 in
theorem dL_law_668 : decode cL_law 668 = .ok (.iload 4, 2) := dr_21 (by decide +kernel)
set_option maxRecDepth 100000 in
theorem dL_law_670 : decode cL_law 670 = .ok (.iconst 2, 1) := dr_5 (by decide +kernel)
set_option maxRecDepth 100000 in
theorem dL_law_671 : decode cL_law 671 = .ok (.iadd, 1) := dr_96 (by decide +kernel)
set_option maxRecDepth 100000 in
theorem dL_law_672 : decode cL_law 672 = .ok (.iaload, 1) := dr_46 (by decide +kernel)
set_option maxRecDepth 100000 in
theorem dL_law_673 : decode cL_law 673 = .ok (.invokevirtual 84, 3) := dr_182 (by decide +kernel)
set_option maxRecDepth 100000 in
theorem dL_law_676 : decode cL_law 676 = .ok (.pop, 1) := dr_87 (by decide +kernel)
set_option maxRecDepth 100000 in
theorem dL_law_677 : decode cL_law 677 = .ok (.aload_n 2, 1) := dr_44 (by decide +kernel)
set_option maxRecDepth 100000 in
theorem dL_law_678 : decode cL_law 678 = .ok (.aload_n 0, 1) := dr_42 (by decide +kernel)
set_option maxRecDepth 100000 in
theorem dL_law_679 : decode cL_law 679 = .ok (.iload 4, 2) := dr_21 (by decide +kernel)
set_option maxRecDepth 100000 in
theorem dL_law_681 : decode cL_law 681 = .ok (.iconst 1, 1) := dr_4 (by decide +kernel)
set_option maxRecDepth 100000 in
theorem dL_law_682 : decode cL_law 682 = .ok (.iadd, 1) := dr_96 (by decide +kernel)
set_option maxRecDepth 100000 in
theorem dL_law_683 : decode cL_law 683 = .ok (.iaload, 1) := dr_46 (by decide +kernel)
set_option maxRecDepth 100000 in
theorem dL_law_684 : decode cL_law 684 = .ok (.aload_n 0, 1) := dr_42 (by decide +kernel)
set_option maxRecDepth 100000 in
theorem dL_law_685 : decode cL_law 685 = .ok (.iload 4, 2) := dr_21 (by decide +kernel)
set_option maxRecDepth 100000 in
theorem dL_law_687 : decode cL_law 687 = .ok (.iconst 2, 1) := dr_5 (by decide +kernel)
set_option maxRecDepth 100000 in
theorem dL_law_688 : decode cL_law 688 = .ok (.iadd, 1) := dr_96 (by decide +kernel)
set_option maxRecDepth 100000 in
theorem dL_law_689 : decode cL_law 689 = .ok (.iaload, 1) := dr_46 (by decide +kernel)
set_option maxRecDepth 100000 in
theorem dL_law_690 : decode cL_law 690 = .ok (.invokevirtual 87, 3) := dr_182 (by decide +kernel)
set_option maxRecDepth 100000 in
theorem dL_law_693 : decode cL_law 693 = .ok (.pop, 1) := dr_87 (by decide +kernel)
set_option maxRecDepth 100000 in
theorem dL_law_694 : decode cL_law 694 = .ok (.goto 828, 3) := dr_167 (by decide +kernel)
set_option maxRecDepth 100000 in
theorem dL_law_697 : decode cL_law 697 = .ok (.aload_n 1, 1) := dr_43 (by decide +kernel)
set_option maxRecDepth 100000 in
theorem dL_law_698 : decode cL_law 698 = .ok (.aload_n 0, 1) := dr_42 (by decide +kernel)
set_option maxRecDepth 100000 in
theorem dL_law_699 : decode cL_law 699 = .ok (.iload 4, 2) := dr_21 (by decide +kernel)
set_option maxRecDepth 100000 in
theorem dL_law_701 : decode cL_law 701 = .ok (.iconst 1, 1) := dr_4 (by decide +kernel)
set_option maxRecDepth 100000 in
theorem dL_law_702 : decode cL_law 702 = .ok (.iadd, 1) := dr_96 (by decide +kernel)
set_option maxRecDepth 100000 in
theorem dL_law_703 : decode cL_law 703 = .ok (.iaload, 1) := dr_46 (by decide +kernel)
set_option maxRecDepth 100000 in
theorem dL_law_704 : decode cL_law 704 = .ok (.aload_n 0, 1) := dr_42 (by decide +kernel)
set_option maxRecDepth 100000 in
theorem dL_law_705 : decode cL_law 705 = .ok (.iload 4, 2) := dr_21 (by decide +kernel)
set_option maxRecDepth 100000 in
theorem dL_law_707 : decode cL_law 707 = .ok (.iconst 2, 1) := dr_5 (by decide +kernel)
set_option maxRecDepth 100000 in
theorem dL_law_708 : decode cL_law 708 = .ok (.iadd, 1) := dr_96 (by decide +kernel)
set_option maxRecDepth 100000 in
theorem dL_law_709 : decode cL_law 709 = .ok (.iaload, 1) := dr_46 (by decide +kernel)
set_option maxRecDepth 100000 in
theorem dL_law_710 : decode cL_law 710 = .ok (.aload_n 0, 1) := dr_42 (by decide +kernel)
set_option maxRecDepth 100000 in
theorem dL_law_711 : decode cL_law 711 = .ok (.iload 4, 2) := dr_21 (by decide +kernel)
set_option maxRecDepth 100000 in
theorem dL_law_713 : decode cL_law 713 = .ok (.iconst 3, 1) := dr_6 (by decide +kernel)
set_option maxRecDepth 100000 in
theorem dL_law_714 : decode cL_law 714 = .ok (.iadd, 1) := dr_96 (by decide +kernel)
set_option maxRecDepth 100000 in
theorem dL_law_715 : decode cL_law 715 = .ok (.iaload, 1) := dr_46 (by decide +kernel)
set_option maxRecDepth 100000 in
theorem dL_law_716 : decode cL_law 716 = .ok (.invokevirtual 88, 3) := dr_182 (by decide +kernel)
set_option maxRecDepth 100000 in
theorem dL_law_719 : decode cL_law 719 = .ok (.pop, 1) := dr_87 (by decide +kernel)
set_option maxRecDepth 100000 in
theorem dL_law_720 : decode cL_law 720 = .ok (.aload_n 2, 1) := dr_44 (by decide +kernel)
set_option maxRecDepth 100000 in
theorem dL_law_721 : decode cL_law 721 = .ok (.aload_n 0, 1) := dr_42 (by decide +kernel)
set_option maxRecDepth 100000 in
theorem dL_law_722 : decode cL_law 722 = .ok (.iload 4, 2) := dr_21 (by decide +kernel)
set_option maxRecDepth 100000 in
theorem dL_law_724 : decode cL_law 724 = .ok (.iconst 1, 1) := dr_4 (by decide +kernel)
set_option maxRecDepth 100000 in
theorem dL_law_725 : decode cL_law 725 = .ok (.iadd, 1) := dr_96 (by decide +kernel)
set_option maxRecDepth 100000 in
theorem dL_law_726 : decode cL_law 726 = .ok (.iaload, 1) := dr_46 (by decide +kernel)
set_option maxRecDepth 100000 in
theorem dL_law_727 : decode cL_law 727 = .ok (.aload_n 0, 1) := dr_42 (by decide +kernel)
set_option maxRecDepth 100000 in
theorem dL_law_728 : decode cL_law 728 = .ok (.iload 4, 2) := dr_21 (by decide +kernel)
set_option maxRecDepth 100000 in
theorem dL_law_730 : decode cL_law 730 = .ok (.iconst 2, 1) := dr_5 (by decide +kernel)
set_option maxRecDepth 100000 in
theorem dL_law_731 : decode cL_law 731 = .ok (.iadd, 1) := dr_96 (by decide +kernel)
set_option maxRecDepth 100000 in
theorem dL_law_732 : decode cL_law 732 = .ok (.iaload, 1) := dr_46 (by decide +kernel)
set_option maxRecDepth 100000 in
theorem dL_law_733 : decode cL_law 733 = .ok (.aload_n 0, 1) := dr_42 (by decide +kernel)
set_option maxRecDepth 100000 in
theorem dL_law_734 : decode cL_law 734 = .ok (.iload 4, 2) := dr_21 (by decide +kernel)
set_option maxRecDepth 100000 in
theorem dL_law_736 : decode cL_law 736 = .ok (.iconst 3, 1) := dr_6 (by decide +kernel)
set_option maxRecDepth 100000 in
theorem dL_law_737 : decode cL_law 737 = .ok (.iadd, 1) := dr_96 (by decide +kernel)
set_option maxRecDepth 100000 in
theorem dL_law_738 : decode cL_law 738 = .ok (.iaload, 1) := dr_46 (by decide +kernel)
set_option maxRecDepth 100000 in
theorem dL_law_739 : decode cL_law 739 = .ok (.invokevirtual 91, 3) := dr_182 (by decide +kernel)
set_option maxRecDepth 100000 in
theorem dL_law_742 : decode cL_law 742 = .ok (.pop, 1) := dr_87 (by decide +kernel)
set_option maxRecDepth 100000 in
theorem dL_law_743 : decode cL_law 743 = .ok (.goto 779, 3) := dr_167 (by decide +kernel)
set_option maxRecDepth 100000 in
theorem dL_law_746 : decode cL_law 746 = .ok (.aload_n 1, 1) := dr_43 (by decide +kernel)
set_option maxRecDepth 100000 in
theorem dL_law_747 : decode cL_law 747 = .ok (.invokevirtual 92, 3) := dr_182 (by decide +kernel)
set_option maxRecDepth 100000 in
theorem dL_law_750 : decode cL_law 750 = .ok (.pop, 1) := dr_87 (by decide +kernel)
set_option maxRecDepth 100000 in
theorem dL_law_751 : decode cL_law 751 = .ok (.aload_n 2, 1) := dr_44 (by decide +kernel)
set_option maxRecDepth 100000 in
theorem dL_law_752 : decode cL_law 752 = .ok (.invokevirtual 95, 3) := dr_182 (by decide +kernel)
set_option maxRecDepth 100000 in
theorem dL_law_755 : decode cL_law 755 = .ok (.pop, 1) := dr_87 (by decide +kernel)
set_option maxRecDepth 100000 in
theorem dL_law_756 : decode cL_law 756 = .ok (.goto 766, 3) := dr_167 (by decide +kernel)
set_option maxRecDepth 100000 in
theorem dL_law_759 : decode cL_law 759 = .ok (.aload_n 1, 1) := dr_43 (by decide +kernel)
set_option maxRecDepth 100000 in
theorem dL_law_760 : decode cL_law 760 = .ok (.aload_n 0, 1) := dr_42 (by decide +kernel)
set_option maxRecDepth 100000 in
theorem dL_law_761 : decode cL_law 761 = .ok (.iload 4, 2) := dr_21 (by decide +kernel)
set_option maxRecDepth 100000 in
theorem dL_law_763 : decode cL_law 763 = .ok (.iconst 1, 1) := dr_4 (by decide +kernel)
set_option maxRecDepth 100000 in
theorem dL_law_764 : decode cL_law 764 = .ok (.iadd, 1) := dr_96 (by decide +kernel)
set_option maxRecDepth 100000 in
theorem dL_law_765 : decode cL_law 765 = .ok (.iaload, 1) := dr_46 (by decide +kernel)
set_option maxRecDepth 100000 in
theorem dL_law_766 : decode cL_law 766 = .ok (.aload_n 0, 1) := dr_42 (by decide +kernel)
set_option maxRecDepth 100000 in
theorem dL_law_767 : decode cL_law 767 = .ok (.iload 4, 2) := dr_21 (by decide +kernel)
set_option maxRecDepth 100000 in
theorem dL_law_769 : decode cL_law 769 = .ok (.iconst 2, 1) := dr_5 (by decide +kernel)
set_option maxRecDepth 100000 in
theorem dL_law_770 : decode cL_law 770 = .ok (.iadd, 1) := dr_96 (by decide +kernel)
set_option maxRecDepth 100000 in
theorem dL_law_771 : decode cL_law 771 = .ok (.iaload, 1) := dr_46 (by decide +kernel)
set_option maxRecDepth 100000 in
theorem dL_law_772 : decode cL_law 772 = .ok (.invokevirtual 96, 3) := dr_182 (by decide +kernel)
set_option maxRecDepth 100000 in
theorem dL_law_775 : decode cL_law 775 = .ok (.pop, 1) := dr_87 (by decide +kernel)
set_option maxRecDepth 100000 in
theorem dL_law_776 : decode cL_law 776 = .ok (.aload_n 2, 1) := dr_44 (by decide +kernel)
set_option maxRecDepth 100000 in
theorem dL_law_777 : decode cL_law 777 = .ok (.aload_n 0, 1) := dr_42 (by decide +kernel)
set_option maxRecDepth 100000 in
theorem dL_law_778 : decode cL_law 778 = .ok (.iload 4, 2) := dr_21 (by decide +kernel)
set_option maxRecDepth 100000 in
theorem dL_law_780 : decode cL_law 780 = .ok (.iconst 1, 1) := dr_4 (by decide +kernel)
set_option maxRecDepth 100000 in
theorem dL_law_781 : decode cL_law 781 = .ok (.iadd, 1) := dr_96 (by decide +kernel)
set_option maxRecDepth 100000 in
theorem dL_law_782 : decode cL_law 782 = .ok (.iaload, 1) := dr_46 (by decide +kernel)
set_option maxRecDepth 100000 in
theorem dL_law_783 : decode cL_law 783 = .ok (.aload_n 0, 1) := dr_42 (by decide +kernel)
set_option maxRecDepth 100000 in
theorem dL_law_784 : decode cL_law 784 = .ok (.iload 4, 2) := dr_21 (by decide +kernel)
set_option maxRecDepth 100000 in
theorem dL_law_786 : decode cL_law 786 = .ok (.iconst 2, 1) := dr_5 (by decide +kernel)
set_option maxRecDepth 100000 in
theorem dL_law_787 : decode cL_law 787 = .ok (.iadd, 1) := dr_96 (by decide +kernel)
set_option maxRecDepth 100000 in
theorem dL_law_788 : decode cL_law 788 = .ok (.iaload, 1) := dr_46 (by decide +kernel)
set_option maxRecDepth 100000 in
theorem dL_law_789 : decode cL_law 789 = .ok (.invokevirtual 99, 3) := dr_182 (by decide +kernel)
set_option maxRecDepth 100000 in
theorem dL_law_792 : decode cL_law 792 = .ok (.pop, 1) := dr_87 (by decide +kernel)
set_option maxRecDepth 100000 in
theorem dL_law_793 : decode cL_law 793 = .ok (.goto 729, 3) := dr_167 (by decide +kernel)
set_option maxRecDepth 100000 in
theorem dL_law_796 : decode cL_law 796 = .ok (.aload_n 1, 1) := dr_43 (by decide +kernel)
set_option maxRecDepth 100000 in
theorem dL_law_797 : decode cL_law 797 = .ok (.aload_n 0, 1) := dr_42 (by decide +kernel)
set_option maxRecDepth 100000 in
theorem dL_law_798 : decode cL_law 798 = .ok (.iload 4, 2) := dr_21 (by decide +kernel)
set_option maxRecDepth 100000 in
theorem dL_law_800 : decode cL_law 800 = .ok (.iconst 1, 1) := dr_4 (by decide +kernel)
set_option maxRecDepth 100000 in
theorem dL_law_801 : decode cL_law 801 = .ok (.iadd, 1) := dr_96 (by decide +kernel)
set_option maxRecDepth 100000 in
theorem dL_law_802 : decode cL_law 802 = .ok (.iaload, 1) := dr_46 (by decide +kernel)
set_option maxRecDepth 100000 in
theorem dL_law_803 : decode cL_law 803 = .ok (.invokevirtual 100, 3) := dr_182 (by decide +kernel)
set_option maxRecDepth 100000 in
theorem dL_law_806 : decode cL_law 806 = .ok (.pop, 1) := dr_87 (by decide +kernel)
set_option maxRecDepth 100000 in
theorem dL_law_807 : decode cL_law 807 = .ok (.aload_n 2, 1) := dr_44 (by decide +kernel)
set_option maxRecDepth 100000 in
theorem dL_law_808 : decode cL_law 808 = .ok (.aload_n 0, 1) := dr_42 (by decide +kernel)
set_option maxRecDepth 100000 in
theorem dL_law_809 : decode cL_law 809 = .ok (.iload 4, 2) := dr_21 (by decide +kernel)
set_option maxRecDepth 100000 in
theorem dL_law_811 : decode cL_law 811 = .ok (.iconst 1, 1) := dr_4 (by decide +kernel)
set_option maxRecDepth 100000 in
theorem dL_law_812 : decode cL_law 812 = .ok (.iadd, 1) := dr_96 (by decide +kernel)
set_option maxRecDepth 100000 in
theorem dL_law_813 : decode cL_law 813 = .ok (.iaload, 1) := dr_46 (by decide +kernel)
set_option maxRecDepth 100000 in
theorem dL_law_814 : decode cL_law 814 = .ok (.invokevirtual 103, 3) := dr_182 (by decide +kernel)
set_option maxRecDepth 100000 in
theorem dL_law_817 : decode cL_law 817 = .ok (.pop, 1) := dr_87 (by decide +kernel)
set_option maxRecDepth 100000 in
theorem dL_law_818 : decode cL_law 818 = .ok (.goto 704, 3) := dr_167 (by decide +kernel)
set_option maxRecDepth 100000 in
theorem dL_law_821 : decode cL_law 821 = .ok (.aload_n 1, 1) := dr_43 (by decide +kernel)
set_option maxRecDepth 100000 in
theorem dL_law_822 : decode cL_law 822 = .ok (.aload_n 0, 1) := dr_42 (by decide +kernel)
set_option maxRecDepth 100000 in
theorem dL_law_823 : decode cL_law 823 = .ok (.iload 4, 2) := dr_21 (by decide +kernel)
set_option maxRecDepth 100000 in
theorem dL_law_825 : decode cL_law 825 = .ok (.iconst 1, 1) := dr_4 (by decide +kernel)
set_option maxRecDepth 100000 in
theorem dL_law_826 : decode cL_law 826 = .ok (.iadd, 1) := dr_96 (by decide +kernel)
set_option maxRecDepth 100000 in
theorem dL_law_827 : decode cL_law 827 = .ok (.iaload, 1) := dr_46 (by decide +kernel)
set_option maxRecDepth 100000 in
theorem dL_law_828 : decode cL_law 828 = .ok (.invokevirtual 104, 3) := dr_182 (by decide +kernel)
set_option maxRecDepth 100000 in
theorem dL_law_831 : decode cL_law 831 = .ok (.pop, 1) := dr_87 (by decide +kernel)
set_option maxRecDepth 100000 in
theorem dL_law_832 : decode cL_law 832 = .ok (.aload_n 2, 1) := dr_44 (by decide +kernel)
set_option maxRecDepth 100000 in
theorem dL_law_833 : decode cL_law 833 = .ok (.aload_n 0, 1) := dr_42 (by decide +kernel)
set_option maxRecDepth 100000 in
theorem dL_law_834 : decode cL_law 834 = .ok (.iload 4, 2) := dr_21 (by decide +kernel)
set_option maxRecDepth 100000 in
theorem dL_law_836 : decode cL_law 836 = .ok (.iconst 1, 1) := dr_4 (by decide +kernel)
set_option maxRecDepth 100000 in
theorem dL_law_837 : decode cL_law 837 = .ok (.iadd, 1) := dr_96 (by decide +kernel)
set_option maxRecDepth 100000 in
theorem dL_law_838 : decode cL_law 838 = .ok (.iaload, 1) := dr_46 (by decide +kernel)
set_option maxRecDepth 100000 in
theorem dL_law_839 : decode cL_law 839 = .ok (.invokevirtual 107, 3) := dr_182 (by decide +kernel)
set_option maxRecDepth 100000 in
theorem dL_law_842 : decode cL_law 842 = .ok (.pop, 1) := dr_87 (by decide +kernel)
set_option maxRecDepth 100000 in
theorem dL_law_843 : decode cL_law 843 = .ok (.goto 679, 3) := dr_167 (by decide +kernel)
set_option maxRecDepth 100000 in
theorem dL_law_846 : decode cL_law 846 = .ok (.aload_n 1, 1) := dr_43 (by decide +kernel)
set_option maxRecDepth 100000 in
theorem dL_law_847 : decode cL_law 847 = .ok (.invokevirtual 108, 3) := dr_182 (by decide +kernel)
set_option maxRecDepth 100000 in
theorem dL_law_850 : decode cL_law 850 = .ok (.pop, 1) := dr_87 (by decide +kernel)
set_option maxRecDepth 100000 in
theorem dL_law_851 : decode cL_law 851 = .ok (.aload_n 2, 1) := dr_44 (by decide +kernel)
set_option maxRecDepth 100000 in
theorem dL_law_852 : decode cL_law 852 = .ok (.invokevirtual 111, 3) := dr_182 (by decide +kernel)
set_option maxRecDepth 100000 in
theorem dL_law_855 : decode cL_law 855 = .ok (.pop, 1) := dr_87 (by decide +kernel)
set_option maxRecDepth 100000 in
theorem dL_law_856 : decode cL_law 856 = .ok (.goto 666, 3) := dr_167 (by decide +kernel)
set_option maxRecDepth 100000 in
theorem dL_law_859 : decode cL_law 859 = .ok (.aload_n 1, 1) := dr_43 (by decide +kernel)
set_option maxRecDepth 100000 in
theorem dL_law_860 : decode cL_law 860 = .ok (.aload_n 0, 1) := dr_42 (by decide +kernel)
set_option maxRecDepth 100000 in
theorem dL_law_861 : decode cL_law 861 = .ok (.iload 4, 2) := dr_21 (by decide +kernel)
set_option maxRecDepth 100000 in
theorem dL_law_863 : decode cL_law 863 = .ok (.iconst 1, 1) := dr_4 (by decide +kernel)
set_option maxRecDepth 100000 in
theorem dL_law_864 : decode cL_law 864 = .ok (.iadd, 1) := dr_96 (by decide +kernel)
set_option maxRecDepth 100000 in
theorem dL_law_865 : decode cL_law 865 = .ok (.iaload, 1) := dr_46 (by decide +kernel)
set_option maxRecDepth 100000 in
theorem dL_law_866 : decode cL_law 866 = .ok (.invokevirtual 112, 3) := dr_182 (by decide +kernel)
set_option maxRecDepth 100000 in
theorem dL_law_869 : decode cL_law 869 = .ok (.pop, 1) := dr_87 (by decide +kernel)
set_option maxRecDepth 100000 in
theorem dL_law_870 : decode cL_law 870 = .ok (.aload_n 2, 1) := dr_44 (by decide +kernel)
set_option maxRecDepth 100000 in
theorem dL_law_871 : decode cL_law 871 = .ok (.aload_n 0, 1) := dr_42 (by decide +kernel)
set_option maxRecDepth 100000 in
theorem dL_law_872 : decode cL_law 872 = .ok (.iload 4, 2) := dr_21 (by decide +kernel)
set_option maxRecDepth 100000 in
theorem dL_law_874 : decode cL_law 874 = .ok (.iconst 1, 1) := dr_4 (by decide +kernel)
set_option maxRecDepth 100000 in
theorem dL_law_875 : decode cL_law 875 = .ok (.iadd, 1) := dr_96 (by decide +kernel)
set_option maxRecDepth 100000 in
theorem dL_law_876 : decode cL_law 876 = .ok (.iaload, 1) := dr_46 (by decide +kernel)
set_option maxRecDepth 100000 in
theorem dL_law_877 : decode cL_law 877 = .ok (.invokevirtual 115, 3) := dr_182 (by decide +kernel)
set_option maxRecDepth 100000 in
theorem dL_law_880 : decode cL_law 880 = .ok (.pop, 1) := dr_87 (by decide +kernel)
set_option maxRecDepth 100000 in
theorem dL_law_881 : decode cL_law 881 = .ok (.goto 641, 3) := dr_167 (by decide +kernel)
set_option maxRecDepth 100000 in
theorem dL_law_884 : decode cL_law 884 = .ok (.aload_n 1, 1) := dr_43 (by decide +kernel)
set_option maxRecDepth 100000 in
theorem dL_law_885 : decode cL_law 885 = .ok (.invokevirtual 116, 3) := dr_182 (by decide +kernel)
set_option maxRecDepth 100000 in
theorem dL_law_888 : decode cL_law 888 = .ok (.pop, 1) := dr_87 (by decide +kernel)
set_option maxRecDepth 100000 in
theorem dL_law_889 : decode cL_law 889 = .ok (.aload_n 2, 1) := dr_44 (by decide +kernel)
set_option maxRecDepth 100000 in
theorem dL_law_890 : decode cL_law 890 = .ok (.invokevirtual 119, 3) := dr_182 (by decide +kernel)
set_option maxRecDepth 100000 in
theorem dL_law_893 : decode cL_law 893 = .ok (.pop, 1) := dr_87 (by decide +kernel)
set_option maxRecDepth 100000 in
theorem dL_law_894 : decode cL_law 894 = .ok (.goto 628, 3) := dr_167 (by decide +kernel)
set_option maxRecDepth 100000 in
theorem dL_law_897 : decode cL_law 897 = .ok (.aload_n 1, 1) := dr_43 (by decide +kernel)
set_option maxRecDepth 100000 in
theorem dL_law_898 : decode cL_law 898 = .ok (.invokevirtual 120, 3) := dr_182 (by decide +kernel)
set_option maxRecDepth 100000 in
theorem dL_law_901 : decode cL_law 901 = .ok (.pop, 1) := dr_87 (by decide +kernel)
set_option maxRecDepth 100000 in
theorem dL_law_902 : decode cL_law 902 = .ok (.aload_n 2, 1) := dr_44 (by decide +kernel)
set_option maxRecDepth 100000 in
theorem dL_law_903 : decode cL_law 903 = .ok (.invokevirtual 123, 3) := dr_182 (by decide +kernel)
set_option maxRecDepth 100000 in
theorem dL_law_906 : decode cL_law 906 = .ok (.pop, 1) := dr_87 (by decide +kernel)
set_option maxRecDepth 100000 in
theorem dL_law_907 : decode cL_law 907 = .ok (.goto 615, 3) := dr_167 (by decide +kernel)
set_option maxRecDepth 100000 in
theorem dL_law_910 : decode cL_law 910 = .ok (.aload_n 1, 1) := dr_43 (by decide +kernel)
set_option maxRecDepth 100000 in
theorem dL_law_911 : decode cL_law 911 = .ok (.invokevirtual 124, 3) := dr_182 (by decide +kernel)
set_option maxRecDepth 100000 in
theorem dL_law_914 : decode cL_law 914 = .ok (.pop, 1) := dr_87 (by decide +kernel)
set_option maxRecDepth 100000 in
theorem dL_law_915 : decode cL_law 915 = .ok (.aload_n 2, 1) := dr_44 (by decide +kernel)
set_option maxRecDepth 100000 in
theorem dL_law_916 : decode cL_law 916 = .ok (.invokevirtual 127, 3) := dr_182 (by decide +kernel)
set_option maxRecDepth 100000 in
theorem dL_law_919 : decode cL_law 919 = .ok (.pop, 1) := dr_87 (by decide +kernel)
set_option maxRecDepth 100000 in
theorem dL_law_920 : decode cL_law 920 = .ok (.goto 602, 3) := dr_167 (by decide +kernel)
set_option maxRecDepth 100000 in
theorem dL_law_923 : decode cL_law 923 = .ok (.aload_n 1, 1) := dr_43 (by decide +kernel)
set_option maxRecDepth 100000 in
theorem dL_law_924 : decode cL_law 924 = .ok (.aload_n 0, 1) := dr_42 (by decide +kernel)
set_option maxRecDepth 100000 in
theorem dL_law_925 : decode cL_law 925 = .ok (.iload 4, 2) := dr_21 (by decide +kernel)
set_option maxRecDepth 100000 in
theorem dL_law_927 : decode cL_law 927 = .ok (.iconst 1, 1) := dr_4 (by decide +kernel)
set_option maxRecDepth 100000 in
theorem dL_law_928 : decode cL_law 928 = .ok (.iadd, 1) := dr_96 (by decide +kernel)
set_option maxRecDepth 100000 in
theorem dL_law_929 : decode cL_law 929 = .ok (.iaload, 1) := dr_46 (by decide +kernel)
set_option maxRecDepth 100000 in
theorem dL_law_930 : decode cL_law 930 = .ok (.aload_n 0, 1) := dr_42 (by decide +kernel)
set_option maxRecDepth 100000 in
theorem dL_law_931 : decode cL_law 931 = .ok (.iload 4, 2) := dr_21 (by decide +kernel)
set_option maxRecDepth 100000 in
theorem dL_law_933 : decode cL_law 933 = .ok (.iconst 2, 1) := dr_5 (by decide +kernel)
set_option maxRecDepth 100000 in
theorem dL_law_934 : decode cL_law 934 = .ok (.iadd, 1) := dr_96 (by decide +kernel)
set_option maxRecDepth 100000 in
theorem dL_law_935 : decode cL_law 935 = .ok (.iaload, 1) := dr_46 (by decide +kernel)
set_option maxRecDepth 100000 in
theorem dL_law_936 : decode cL_law 936 = .ok (.invokevirtual 128, 3) := dr_182 (by decide +kernel)
set_option maxRecDepth 100000 in
theorem dL_law_939 : decode cL_law 939 = .ok (.pop, 1) := dr_87 (by decide +kernel)
set_option maxRecDepth 100000 in
theorem dL_law_940 : decode cL_law 940 = .ok (.aload_n 2, 1) := dr_44 (by decide +kernel)
set_option maxRecDepth 100000 in
theorem dL_law_941 : decode cL_law 941 = .ok (.aload_n 0, 1) := dr_42 (by decide +kernel)
set_option maxRecDepth 100000 in
theorem dL_law_942 : decode cL_law 942 = .ok (.iload 4, 2) := dr_21 (by decide +kernel)
set_option maxRecDepth 100000 in
theorem dL_law_944 : decode cL_law 944 = .ok (.iconst 1, 1) := dr_4 (by decide +kernel)
set_option maxRecDepth 100000 in
theorem dL_law_945 : decode cL_law 945 = .ok (.iadd, 1) := dr_96 (by decide +kernel)
set_option maxRecDepth 100000 in
theorem dL_law_946 : decode cL_law 946 = .ok (.iaload, 1) := dr_46 (by decide +kernel)
set_option maxRecDepth 100000 in
theorem dL_law_947 : decode cL_law 947 = .ok (.aload_n 0, 1) := dr_42 (by decide +kernel)
set_option maxRecDepth 100000 in
theorem dL_law_948 : decode cL_law 948 = .ok (.iload 4, 2) := dr_21 (by decide +kernel)
set_option maxRecDepth 100000 in
theorem dL_law_950 : decode cL_law 950 = .ok (.iconst 2, 1) := dr_5 (by decide +kernel)
set_option maxRecDepth 100000 in
theorem dL_law_951 : decode cL_law 951 = .ok (.iadd, 1) := dr_96 (by decide +kernel)
set_option maxRecDepth 100000 in
theorem dL_law_952 : decode cL_law 952 = .ok (.iaload, 1) := dr_46 (by decide +kernel)
set_option maxRecDepth 100000 in
theorem dL_law_953 : decode cL_law 953 = .ok (.invokevirtual 131, 3) := dr_182 (by decide +kernel)
set_option maxRecDepth 100000 in
theorem dL_law_956 : decode cL_law 956 = .ok (.pop, 1) := dr_87 (by decide +kernel)
set_option maxRecDepth 100000 in
theorem dL_law_957 : decode cL_law 957 = .ok (.goto 565, 3) := dr_167 (by decide +kernel)
set_option maxRecDepth 100000 in
theorem dL_law_960 : decode cL_law 960 = .ok (.aload_n 1, 1) := dr_43 (by decide +kernel)
set_option maxRecDepth 100000 in
theorem dL_law_961 : decode cL_law 961 = .ok (.aload_n 0, 1) := dr_42 (by decide +kernel)
set_option maxRecDepth 100000 in
theorem dL_law_962 : decode cL_law 962 = .ok (.iload 4, 2) := dr_21 (by decide +kernel)
set_option maxRecDepth 100000 in
theorem dL_law_964 : decode cL_law 964 = .ok (.iconst 1, 1) := dr_4 (by decide +kernel)
set_option maxRecDepth 100000 in
theorem dL_law_965 : decode cL_law 965 = .ok (.iadd, 1) := dr_96 (by decide +kernel)
set_option maxRecDepth 100000 in
theorem dL_law_966 : decode cL_law 966 = .ok (.iaload, 1) := dr_46 (by decide +kernel)
set_option maxRecDepth 100000 in
theorem dL_law_967 : decode cL_law 967 = .ok (.aload_n 0, 1) := dr_42 (by decide +kernel)
set_option maxRecDepth 100000 in
theorem dL_law_968 : decode cL_law 968 = .ok (.iload 4, 2) := dr_21 (by decide +kernel)
set_option maxRecDepth 100000 in
theorem dL_law_970 : decode cL_law 970 = .ok (.iconst 2, 1) := dr_5 (by decide +kernel)
set_option maxRecDepth 100000 in
theorem dL_law_971 : decode cL_law 971 = .ok (.iadd, 1) := dr_96 (by decide +kernel)
set_option maxRecDepth 100000 in
theorem dL_law_972 : decode cL_law 972 = .ok (.iaload, 1) := dr_46 (by decide +kernel)
set_option maxRecDepth 100000 in
theorem dL_law_973 : decode cL_law 973 = .ok (.aload_n 0, 1) := dr_42 (by decide +kernel)
set_option maxRecDepth 100000 in
theorem dL_law_974 : decode cL_law 974 = .ok (.iload 4, 2) := dr_21 (by decide +kernel)
set_option maxRecDepth 100000 in
theorem dL_law_976 : decode cL_law 976 = .ok (.iconst 3, 1) := dr_6 (by decide +kernel)
set_option maxRecDepth 100000 in
theorem dL_law_977 : decode cL_law 977 = .ok (.iadd, 1) := dr_96 (by decide +kernel)
set_option maxRecDepth 100000 in
theorem dL_law_978 : decode cL_law 978 = .ok (.iaload, 1) := dr_46 (by decide +kernel)
set_option maxRecDepth 100000 in
theorem dL_law_979 : decode cL_law 979 = .ok (.invokevirtual 132, 3) := dr_182 (by decide +kernel)
set_option maxRecDepth 100000 in
theorem dL_law_982 : decode cL_law 982 = .ok (.pop, 1) := dr_87 (by decide +kernel)
set_option maxRecDepth 100000 in
theorem dL_law_983 : decode cL_law 983 = .ok (.aload_n 2, 1) := dr_44 (by decide +kernel)
set_option maxRecDepth 100000 in
theorem dL_law_984 : decode cL_law 984 = .ok (.aload_n 0, 1) := dr_42 (by decide +kernel)
set_option maxRecDepth 100000 in
theorem dL_law_985 : decode cL_law 985 = .ok (.iload 4, 2) := dr_21 (by decide +kernel)
set_option maxRecDepth 100000 in
theorem dL_law_987 : decode cL_law 987 = .ok (.iconst 1, 1) := dr_4 (by decide +kernel)
set_option maxRecDepth 100000 in
theorem dL_law_988 : decode cL_law 988 = .ok (.iadd, 1) := dr_96 (by decide +kernel)
set_option maxRecDepth 100000 in
theorem dL_law_989 : decode cL_law 989 = .ok (.iaload, 1) := dr_46 (by decide +kernel)
set_option maxRecDepth 100000 in
theorem dL_law_990 : decode cL_law 990 = .ok (.aload_n 0, 1) := dr_42 (by decide +kernel)
set_option maxRecDepth 100000 in
theorem dL_law_991 : decode cL_law 991 = .ok (.iload 4, 2) := dr_21 (by decide +kernel)
set_option maxRecDepth 100000 in
theorem dL_law_993 : decode cL_law 993 = .ok (.iconst 2, 1) := dr_5 (by decide +kernel)
set_option maxRecDepth 100000 in
theorem dL_law_994 : decode cL_law 994 = .ok (.iadd, 1) := dr_96 (by decide +kernel)
set_option maxRecDepth 100000 in
theorem dL_law_995 : decode cL_law 995 = .ok (.iaload, 1) := dr_46 (by decide +kernel)
set_option maxRecDepth 100000 in
theorem dL_law_996 : decode cL_law 996 = .ok (.aload_n 0, 1) := dr_42 (by decide +kernel)
set_option maxRecDepth 100000 in
theorem dL_law_997 : decode cL_law 997 = .ok (.iload 4, 2) := dr_21 (by decide +kernel)
set_option maxRecDepth 100000 in
theorem dL_law_999 : decode cL_law 999 = .ok (.iconst 3, 1) := dr_6 (by decide +kernel)
set_option maxRecDepth 100000 in
theorem dL_law_1000 : decode cL_law 1000 = .ok (.iadd, 1) := dr_96 (by decide +kernel)
set_option maxRecDepth 100000 in
theorem dL_law_1001 : decode cL_law 1001 = .ok (.iaload, 1) := dr_46 (by decide +kernel)
set_option maxRecDepth 100000 in
theorem dL_law_1002 : decode cL_law 1002 = .ok (.invokevirtual 135, 3) := dr_182 (by decide +kernel)
set_option maxRecDepth 100000 in
theorem dL_law_1005 : decode cL_law 1005 = .ok (.pop, 1) := dr_87 (by decide +kernel)
set_option maxRecDepth 100000 in
theorem dL_law_1006 : decode cL_law 1006 = .ok (.goto 516, 3) := dr_167 (by decide +kernel)
set_option maxRecDepth 100000 in
theorem dL_law_1009 : decode cL_law 1009 = .ok (.aload_n 1, 1) := dr_43 (by decide +kernel)
set_option maxRecDepth 100000 in
theorem dL_law_1010 : decode cL_law 1010 = .ok (.aload_n 0, 1) := dr_42 (by decide +kernel)
set_option maxRecDepth 100000 in
theorem dL_law_1011 : decode cL_law 1011 = .ok (.iload 4, 2) := dr_21 (by decide +kernel)
set_option maxRecDepth 100000 in
theorem dL_law_1013 : decode cL_law 1013 = .ok (.iconst 1, 1) := dr_4 (by decide +kernel)
set_option maxRecDepth 100000 in
theorem dL_law_1014 : decode cL_law 1014 = .ok (.iadd, 1) := dr_96 (by decide +kernel)
set_option maxRecDepth 100000 in
theorem dL_law_1015 : decode cL_law 1015 = .ok (.iaload, 1) := dr_46 (by decide +kernel)
set_option maxRecDepth 100000 in
theorem dL_law_1016 : decode cL_law 1016 = .ok (.aload_n 0, 1) := dr_42 (by decide +kernel)
set_option maxRecDepth 100000 in
theorem dL_law_1017 : decode cL_law 1017 = .ok (.iload 4, 2) := dr_21 (by decide +kernel)
set_option maxRecDepth 100000 in
theorem dL_law_1019 : decode cL_law 1019 = .ok (.iconst 2, 1) := dr_5 (by decide +kernel)
set_option maxRecDepth 100000 in
theorem dL_law_1020 : decode cL_law 1020 = .ok (.iadd, 1) := dr_96 (by decide +kernel)
set_option maxRecDepth 100000 in
theorem dL_law_1021 : decode cL_law 1021 = .ok (.iaload, 1) := dr_46 (by decide +kernel)
set_option maxRecDepth 100000 in
theorem dL_law_1022 : decode cL_law 1022 = .ok (.aload_n 0, 1) := dr_42 (by decide +kernel)
set_option maxRecDepth 100000 in
theorem dL_law_1023 : decode cL_law 1023 = .ok (.iload 4, 2) := dr_21 (by decide +kernel)
set_option maxRecDepth 100000 in
theorem dL_law_1025 : decode cL_law 1025 = .ok (.iconst 3, 1) := dr_6 (by decide +kernel)
set_option maxRecDepth 100000 in
theorem dL_law_1026 : decode cL_law 1026 = .ok (.iadd, 1) := dr_96 (by decide +kernel)
set_option maxRecDepth 100000 in
theorem dL_law_1027 : decode cL_law 1027 = .ok (.iaload, 1) := dr_46 (by decide +kernel)
set_option maxRecDepth 100000 in
theorem dL_law_1028 : decode cL_law 1028 = .ok (.invokevirtual 136, 3) := dr_182 (by decide +kernel)
set_option maxRecDepth 100000 in
theorem dL_law_1031 : decode cL_law 1031 = .ok (.pop, 1) := dr_87 (by decide +kernel)
set_option maxRecDepth 100000 in
theorem dL_law_1032 : decode cL_law 1032 = .ok (.aload_n 2, 1) := dr_44 (by decide +kernel)
set_option maxRecDepth 100000 in
theorem dL_law_1033 : decode cL_law 1033 = .ok (.aload_n 0, 1) := dr_42 (by decide +kernel)
set_option maxRecDepth 100000 in
theorem dL_law_1034 : decode cL_law 1034 = .ok (.iload 4, 2) := dr_21 (by decide +kernel)
set_option maxRecDepth 100000 in
theorem dL_law_1036 : decode cL_law 1036 = .ok (.iconst 1, 1) := dr_4 (by decide +kernel)
set_option maxRecDepth 100000 in
theorem dL_law_1037 : decode cL_law 1037 = .ok (.iadd, 1) := dr_96 (by decide +kernel)
set_option maxRecDepth 100000 in
theorem dL_law_1038 : decode cL_law 1038 = .ok (.iaload, 1) := dr_46 (by decide +kernel)
set_option maxRecDepth 100000 in
theorem dL_law_1039 : decode cL_law 1039 = .ok (.aload_n 0, 1) := dr_42 (by decide +kernel)
set_option maxRecDepth 100000 in
theorem dL_law_1040 : decode cL_law 1040 = .ok (.iload 4, 2) := dr_21 (by decide +kernel)
set_option maxRecDepth 100000 in
theorem dL_law_1042 : decode cL_law 1042 = .ok (.iconst 2, 1) := dr_5 (by decide +kernel)
set_option maxRecDepth 100000 in
theorem dL_law_1043 : decode cL_law 1043 = .ok (.iadd, 1) := dr_96 (by decide +kernel)
set_option maxRecDepth 100000 in
theorem dL_law_1044 : decode cL_law 1044 = .ok (.iaload, 1) := dr_46 (by decide +kernel)
set_option maxRecDepth 100000 in
theorem dL_law_1045 : decode cL_law 1045 = .ok (.aload_n 0, 1) := dr_42 (by decide +kernel)
set_option maxRecDepth 100000 in
theorem dL_law_1046 : decode cL_law 1046 = .ok (.iload 4, 2) := dr_21 (by decide +kernel)
set_option maxRecDepth 100000 in
theorem dL_law_1048 : decode cL_law 1048 = .ok (.iconst 3, 1) := dr_6 (by decide +kernel)
set_option maxRecDepth 100000 in
theorem dL_law_1049 : decode cL_law 1049 = .ok (.iadd, 1) := dr_96 (by decide +kernel)
set_option maxRecDepth 100000 in
theorem dL_law_1050 : decode cL_law 1050 = .ok (.iaload, 1) := dr_46 (by decide +kernel)
set_option maxRecDepth 100000 in
theorem dL_law_1051 : decode cL_law 1051 = .ok (.invokevirtual 139, 3) := dr_182 (by decide +kernel)
set_option maxRecDepth 100000 in
theorem dL_law_1054 : decode cL_law 1054 = .ok (.pop, 1) := dr_87 (by decide +kernel)
set_option maxRecDepth 100000 in
theorem dL_law_1055 : decode cL_law 1055 = .ok (.goto 467, 3) := dr_167 (by decide +kernel)
set_option maxRecDepth 100000 in
theorem dL_law_1058 : decode cL_law 1058 = .ok (.aload_n 1, 1) := dr_43 (by decide +kernel)
set_option maxRecDepth 100000 in
theorem dL_law_1059 : decode cL_law 1059 = .ok (.aload_n 0, 1) := dr_42 (by decide +kernel)
set_option maxRecDepth 100000 in
theorem dL_law_1060 : decode cL_law 1060 = .ok (.iload 4, 2) := dr_21 (by decide +kernel)
set_option maxRecDepth 100000 in
theorem dL_law_1062 : decode cL_law 1062 = .ok (.iconst 1, 1) := dr_4 (by decide +kernel)
set_option maxRecDepth 100000 in
theorem dL_law_1063 : decode cL_law 1063 = .ok (.iadd, 1) := dr_96 (by decide +kernel)
set_option maxRecDepth 100000 in
theorem dL_law_1064 : decode cL_law 1064 = .ok (.iaload, 1) := dr_46 (by decide +kernel)
set_option maxRecDepth 100000 in
theorem dL_law_1065 : decode cL_law 1065 = .ok (.invokevirtual 140, 3) := dr_182 (by decide +kernel)
set_option maxRecDepth 100000 in
theorem dL_law_1068 : decode cL_law 1068 = .ok (.pop, 1) := dr_87 (by decide +kernel)
set_option maxRecDepth 100000 in
theorem dL_law_1069 : decode cL_law 1069 = .ok (.aload_n 2, 1) := dr_44 (by decide +kernel)
set_option maxRecDepth 100000 in
theorem dL_law_1070 : decode cL_law 1070 = .ok (.aload_n 0, 1) := dr_42 (by decide +kernel)
set_option maxRecDepth 100000 in
theorem dL_law_1071 : decode cL_law 1071 = .ok (.iload 4, 2) := dr_21 (by decide +kernel)
set_option maxRecDepth 100000 in
theorem dL_law_1073 : decode cL_law 1073 = .ok (.iconst 1, 1) := dr_4 (by decide +kernel)
set_option maxRecDepth 100000 in
theorem dL_law_1074 : decode cL_law 1074 = .ok (.iadd, 1) := dr_96 (by decide +kernel)
set_option maxRecDepth 100000 in
theorem dL_law_1075 : decode cL_law 1075 = .ok (.iaload, 1) := dr_46 (by decide +kernel)
set_option maxRecDepth 100000 in
theorem dL_law_1076 : decode cL_law 1076 = .ok (.invokevirtual 143, 3) := dr_182 (by decide +kernel)
set_option maxRecDepth 100000 in
theorem dL_law_1079 : decode cL_law 1079 = .ok (.pop, 1) := dr_87 (by decide +kernel)
set_option maxRecDepth 100000 in
theorem dL_law_1080 : decode cL_law 1080 = .ok (.goto 442, 3) := dr_167 (by decide +kernel)
set_option maxRecDepth 100000 in
theorem dL_law_1083 : decode cL_law 1083 = .ok (.aload_n 1, 1) := dr_43 (by decide +kernel)
set_option maxRecDepth 100000 in
theorem dL_law_1084 : decode cL_law 1084 = .ok (.aload_n 0, 1) := dr_42 (by decide +kernel)
set_option maxRecDepth 100000 in
theorem dL_law_1085 : decode cL_law 1085 = .ok (.iload 4, 2) := dr_21 (by decide +kernel)
set_option maxRecDepth 100000 in
theorem dL_law_1087 : decode cL_law 1087 = .ok (.iconst 1, 1) := dr_4 (by decide +kernel)
set_option maxRecDepth 100000 in
theorem dL_law_1088 : decode cL_law 1088 = .ok (.iadd, 1) := dr_96 (by decide +kernel)
set_option maxRecDepth 100000 in
theorem dL_law_1089 : decode cL_law 1089 = .ok (.iaload, 1) := dr_46 (by decide +kernel)
set_option maxRecDepth 100000 in
theorem dL_law_1090 : decode cL_law 1090 = .ok (.aload_n 0, 1) := dr_42 (by decide +kernel)
set_option maxRecDepth 100000 in
theorem dL_law_1091 : decode cL_law 1091 = .ok (.iload 4, 2) := dr_21 (by decide +kernel)
set_option maxRecDepth 100000 in
theorem dL_law_1093 : decode cL_law 1093 = .ok (.iconst 2, 1) := dr_5 (by decide +kernel)
set_option maxRecDepth 100000 in
theorem dL_law_1094 : decode cL_law 1094 = .ok (.iadd, 1) := dr_96 (by decide +kernel)
set_option maxRecDepth 100000 in
theorem dL_law_1095 : decode cL_law 1095 = .ok (.iaload, 1) := dr_46 (by decide +kernel)
set_option maxRecDepth 100000 in
theorem dL_law_1096 : decode cL_law 1096 = .ok (.aload_n 0, 1) := dr_42 (by decide +kernel)
set_option maxRecDepth 100000 in
theorem dL_law_1097 : decode cL_law 1097 = .ok (.iload 4, 2) := dr_21 (by decide +kernel)
set_option maxRecDepth 100000 in
theorem dL_law_1099 : decode cL_law 1099 = .ok (.iconst 3, 1) := dr_6 (by decide +kernel)
set_option maxRecDepth 100000 in
theorem dL_law_1100 : decode cL_law 1100 = .ok (.iadd, 1) := dr_96 (by decide +kernel)
set_option maxRecDepth 100000 in
theorem dL_law_1101 : decode cL_law 1101 = .ok (.iaload, 1) := dr_46 (by decide +kernel)
set_option maxRecDepth 100000 in
theorem dL_law_1102 : decode cL_law 1102 = .ok (.invokevirtual 144, 3) := dr_182 (by decide +kernel)
set_option maxRecDepth 100000 in
theorem dL_law_1105 : decode cL_law 1105 = .ok (.pop, 1) := dr_87 (by decide +kernel)
set_option maxRecDepth 100000 in
theorem dL_law_1106 : decode cL_law 1106 = .ok (.aload_n 2, 1) := dr_44 (by decide +kernel)
set_option maxRecDepth 100000 in
theorem dL_law_1107 : decode cL_law 1107 = .ok (.aload_n 0, 1) := dr_42 (by decide +kernel)
set_option maxRecDepth 100000 in
theorem dL_law_1108 : decode cL_law 1108 = .ok (.iload 4, 2) := dr_21 (by decide +kernel)
set_option maxRecDepth 100000 in
theorem dL_law_1110 : decode cL_law 1110 = .ok (.iconst 1, 1) := dr_4 (by decide +kernel)
set_option maxRecDepth 100000 in
theorem dL_law_1111 : decode cL_law 1111 = .ok (.iadd, 1) := dr_96 (by decide +kernel)
set_option maxRecDepth 100000 in
theorem dL_law_1112 : decode cL_law 1112 = .ok (.iaload, 1) := dr_46 (by decide +kernel)
set_option maxRecDepth 100000 in
theorem dL_law_1113 : decode cL_law 1113 = .ok (.aload_n 0, 1) := dr_42 (by decide +kernel)
set_option maxRecDepth 100000 in
theorem dL_law_1114 : decode cL_law 1114 = .ok (.iload 4, 2) := dr_21 (by decide +kernel)
set_option maxRecDepth 100000 in
theorem dL_law_1116 : decode cL_law 1116 = .ok (.iconst 2, 1) := dr_5 (by decide +kernel)
set_option maxRecDepth 100000 in
theorem dL_law_1117 : decode cL_law 1117 = .ok (.iadd, 1) := dr_96 (by decide +kernel)
set_option maxRecDepth 100000 in
theorem dL_law_1118 : decode cL_law 1118 = .ok (.iaload, 1) := dr_46 (by decide +kernel)
set_option maxRecDepth 100000 in
theorem dL_law_1119 : decode cL_law 1119 = .ok (.aload_n 0, 1) := dr_42 (by decide +kernel)
set_option maxRecDepth 100000 in
theorem dL_law_1120 : decode cL_law 1120 = .ok (.iload 4, 2) := dr_21 (by decide +kernel)
set_option maxRecDepth 100000 in
theorem dL_law_1122 : decode cL_law 1122 = .ok (.iconst 3, 1) := dr_6 (by decide +kernel)
set_option maxRecDepth 100000 in
theorem dL_law_1123 : decode cL_law 1123 = .ok (.iadd, 1) := dr_96 (by decide +kernel)
set_option maxRecDepth 100000 in
theorem dL_law_1124 : decode cL_law 1124 = .ok (.iaload, 1) := dr_46 (by decide +kernel)
set_option maxRecDepth 100000 in
theorem dL_law_1125 : decode cL_law 1125 = .ok (.invokevirtual 147, 3) := dr_182 (by decide +kernel)
set_option maxRecDepth 100000 in
theorem dL_law_1128 : decode cL_law 1128 = .ok (.pop, 1) := dr_87 (by decide +kernel)
set_option maxRecDepth 100000 in
theorem dL_law_1129 : decode cL_law 1129 = .ok (.goto 393, 3) := dr_167 (by decide +kernel)
set_option maxRecDepth 100000 in
theorem dL_law_1132 : decode cL_law 1132 = .ok (.aload_n 1, 1) := dr_43 (by decide +kernel)
set_option maxRecDepth 100000 in
theorem dL_law_1133 : decode cL_law 1133 = .ok (.aload_n 0, 1) := dr_42 (by decide +kernel)
set_option maxRecDepth 100000 in
theorem dL_law_1134 : decode cL_law 1134 = .ok (.iload 4, 2) := dr_21 (by decide +kernel)
set_option maxRecDepth 100000 in
theorem dL_law_1136 : decode cL_law 1136 = .ok (.iconst 1, 1) := dr_4 (by decide +kernel)
set_option maxRecDepth 100000 in
theorem dL_law_1137 : decode cL_law 1137 = .ok (.iadd, 1) := dr_96 (by decide +kernel)
set_option maxRecDepth 100000 in
theorem dL_law_1138 : decode cL_law 1138 = .ok (.iaload, 1) := dr_46 (by decide +kernel)
set_option maxRecDepth 100000 in
theorem dL_law_1139 : decode cL_law 1139 = .ok (.invokevirtual 148, 3) := dr_182 (by decide +kernel)
set_option maxRecDepth 100000 in
theorem dL_law_1142 : decode cL_law 1142 = .ok (.pop, 1) := dr_87 (by decide +kernel)
set_option maxRecDepth 100000 in
theorem dL_law_1143 : decode cL_law 1143 = .ok (.aload_n 2, 1) := dr_44 (by decide +kernel)
set_option maxRecDepth 100000 in
theorem dL_law_1144 : decode cL_law 1144 = .ok (.aload_n 0, 1) := dr_42 (by decide +kernel)
set_option maxRecDepth 100000 in
theorem dL_law_1145 : decode cL_law 1145 = .ok (.iload 4, 2) := dr_21 (by decide +kernel)
set_option maxRecDepth 100000 in
theorem dL_law_1147 : decode cL_law 1147 = .ok (.iconst 1, 1) := dr_4 (by decide +kernel)
set_option maxRecDepth 100000 in
theorem dL_law_1148 : decode cL_law 1148 = .ok (.iadd, 1) := dr_96 (by decide +kernel)
set_option maxRecDepth 100000 in
theorem dL_law_1149 : decode cL_law 1149 = .ok (.iaload, 1) := dr_46 (by decide +kernel)
set_option maxRecDepth 100000 in
theorem dL_law_1150 : decode cL_law 1150 = .ok (.invokevirtual 151, 3) := dr_182 (by decide +kernel)
set_option maxRecDepth 100000 in
theorem dL_law_1153 : decode cL_law 1153 = .ok (.pop, 1) := dr_87 (by decide +kernel)
set_option maxRecDepth 100000 in
theorem dL_law_1154 : decode cL_law 1154 = .ok (.goto 368, 3) := dr_167 (by decide +kernel)
set_option maxRecDepth 100000 in
theorem dL_law_1157 : decode cL_law 1157 = .ok (.aload_n 1, 1) := dr_43 (by decide +kernel)
set_option maxRecDepth 100000 in
theorem dL_law_1158 : decode cL_law 1158 = .ok (.aload_n 0, 1) := dr_42 (by decide +kernel)
set_option maxRecDepth 100000 in
theorem dL_law_1159 : decode cL_law 1159 = .ok (.iload 4, 2) := dr_21 (by decide +kernel)
set_option maxRecDepth 100000 in
theorem dL_law_1161 : decode cL_law 1161 = .ok (.iconst 1, 1) := dr_4 (by decide +kernel)
set_option maxRecDepth 100000 in
theorem dL_law_1162 : decode cL_law 1162 = .ok (.iadd, 1) := dr_96 (by decide +kernel)
set_option maxRecDepth 100000 in
theorem dL_law_1163 : decode cL_law 1163 = .ok (.iaload, 1) := dr_46 (by decide +kernel)
set_option maxRecDepth 100000 in
theorem dL_law_1164 : decode cL_law 1164 = .ok (.aload_n 0, 1) := dr_42 (by decide +kernel)
set_option maxRecDepth 100000 in
theorem dL_law_1165 : decode cL_law 1165 = .ok (.iload 4, 2) := dr_21 (by decide +kernel)
set_option maxRecDepth 100000 in
theorem dL_law_1167 : decode cL_law 1167 = .ok (.iconst 2, 1) := dr_5 (by decide +kernel)
set_option maxRecDepth 100000 in
theorem dL_law_1168 : decode cL_law 1168 = .ok (.iadd, 1) := dr_96 (by decide +kernel)
set_option maxRecDepth 100000 in
theorem dL_law_1169 : decode cL_law 1169 = .ok (.iaload, 1) := dr_46 (by decide +kernel)
set_option maxRecDepth 100000 in
theorem dL_law_1170 : decode cL_law 1170 = .ok (.invokevirtual 152, 3) := dr_182 (by decide +kernel)
set_option maxRecDepth 100000 in
theorem dL_law_1173 : decode cL_law 1173 = .ok (.pop, 1) := dr_87 (by decide +kernel)
set_option maxRecDepth 100000 in
theorem dL_law_1174 : decode cL_law 1174 = .ok (.aload_n 2, 1) := dr_44 (by decide +kernel)
set_option maxRecDepth 100000 in
theorem dL_law_1175 : decode cL_law 1175 = .ok (.aload_n 0, 1) := dr_42 (by decide +kernel)
set_option maxRecDepth 100000 in
theorem dL_law_1176 : decode cL_law 1176 = .ok (.iload 4, 2) := dr_21 (by decide +kernel)
set_option maxRecDepth 100000 in
theorem dL_law_1178 : decode cL_law 1178 = .ok (.iconst 1, 1) := dr_4 (by decide +kernel)
set_option maxRecDepth 100000 in
theorem dL_law_1179 : decode cL_law 1179 = .ok (.iadd, 1) := dr_96 (by decide +kernel)
set_option maxRecDepth 100000 in
theorem dL_law_1180 : decode cL_law 1180 = .ok (.iaload, 1) := dr_46 (by decide +kernel)
set_option maxRecDepth 100000 in
theorem dL_law_1181 : decode cL_law 1181 = .ok (.aload_n 0, 1) := dr_42 (by decide +kernel)
set_option maxRecDepth 100000 in
theorem dL_law_1182 : decode cL_law 1182 = .ok (.iload 4, 2) := dr_21 (by decide +kernel)
set_option maxRecDepth 100000 in
theorem dL_law_1184 : decode cL_law 1184 = .ok (.iconst 2, 1) := dr_5 (by decide +kernel)
set_option maxRecDepth 100000 in
theorem dL_law_1185 : decode cL_law 1185 = .ok (.iadd, 1) := dr_96 (by decide +kernel)
set_option maxRecDepth 100000 in
theorem dL_law_1186 : decode cL_law 1186 = .ok (.iaload, 1) := dr_46 (by decide +kernel)
set_option maxRecDepth 100000 in
theorem dL_law_1187 : decode cL_law 1187 = .ok (.invokevirtual 155, 3) := dr_182 (by decide +kernel)
set_option maxRecDepth 100000 in
theorem dL_law_1190 : decode cL_law 1190 = .ok (.pop, 1) := dr_87 (by decide +kernel)
set_option maxRecDepth 100000 in
theorem dL_law_1191 : decode cL_law 1191 = .ok (.goto 331, 3) := dr_167 (by decide +kernel)
set_option maxRecDepth 100000 in
theorem dL_law_1194 : decode cL_law 1194 = .ok (.aload_n 1, 1) := dr_43 (by decide +kernel)
set_option maxRecDepth 100000 in
theorem dL_law_1195 : decode cL_law 1195 = .ok (.aload_n 0, 1) := dr_42 (by decide +kernel)
set_option maxRecDepth 100000 in
theorem dL_law_1196 : decode cL_law 1196 = .ok (.iload 4, 2) := dr_21 (by decide +kernel)
set_option maxRecDepth 100000 in
theorem dL_law_1198 : decode cL_law 1198 = .ok (.iconst 1, 1) := dr_4 (by decide +kernel)
set_option maxRecDepth 100000 in
theorem dL_law_1199 : decode cL_law 1199 = .ok (.iadd, 1) := dr_96 (by decide +kernel)
set_option maxRecDepth 100000 in
theorem dL_law_1200 : decode cL_law 1200 = .ok (.iaload, 1) := dr_46 (by decide +kernel)
set_option maxRecDepth 100000 in
theorem dL_law_1201 : decode cL_law 1201 = .ok (.invokevirtual 156, 3) := dr_182 (by decide +kernel)
set_option maxRecDepth 100000 in
theorem dL_law_1204 : decode cL_law 1204 = .ok (.pop, 1) := dr_87 (by decide +kernel)
set_option maxRecDepth 100000 in
theorem dL_law_1205 : decode cL_law 1205 = .ok (.aload_n 2, 1) := dr_44 (by decide +kernel)
set_option maxRecDepth 100000 in
theorem dL_law_1206 : decode cL_law 1206 = .ok (.aload_n 0, 1) := dr_42 (by decide +kernel)
set_option maxRecDepth 100000 in
theorem dL_law_1207 : decode cL_law 1207 = .ok (.iload 4, 2) := dr_21 (by decide +kernel)
set_option maxRecDepth 100000 in
theorem dL_law_1209 : decode cL_law 1209 = .ok (.iconst 1, 1) := dr_4 (by decide +kernel)
set_option maxRecDepth 100000 in
theorem dL_law_1210 : decode cL_law 1210 = .ok (.iadd, 1) := dr_96 (by decide +kernel)
set_option maxRecDepth 100000 in
theorem dL_law_1211 : decode cL_law 1211 = .ok (.iaload, 1) := dr_46 (by decide +kernel)
set_option maxRecDepth 100000 in
theorem dL_law_1212 : decode cL_law 1212 = .ok (.invokevirtual 159, 3) := dr_182 (by decide +kernel)
set_option maxRecDepth 100000 in
theorem dL_law_1215 : decode cL_law 1215 = .ok (.pop, 1) := dr_87 (by decide +kernel)
set_option maxRecDepth 100000 in
theorem dL_law_1216 : decode cL_law 1216 = .ok (.goto 306, 3) := dr_167 (by decide +kernel)
set_option maxRecDepth 100000 in
theorem dL_law_1219 : decode cL_law 1219 = .ok (.aload_n 1, 1) := dr_43 (by decide +kernel)
set_option maxRecDepth 100000 in
theorem dL_law_1220 : decode cL_law 1220 = .ok (.invokevirtual 160, 3) := dr_182 (by decide +kernel)
set_option maxRecDepth 100000 in
theorem dL_law_1223 : decode cL_law 1223 = .ok (.aload_n 2, 1) := dr_44 (by decide +kernel)
set_option maxRecDepth 100000 in
theorem dL_law_1224 : decode cL_law 1224 = .ok (.invokevirtual 163, 3) := dr_182 (by decide +kernel)
set_option maxRecDepth 100000 in
theorem dL_law_1227 : decode cL_law 1227 = .ok (.if_icmp .eq 295, 3) := dr_159 (by decide +kernel)
set_option maxRecDepth 100000 in
theorem dL_law_1230 : decode cL_law 1230 = .ok (.iconst 0, 1) := dr_3 (by decide +kernel)
set_option maxRecDepth 100000 in
theorem dL_law_1231 : decode cL_law 1231 = .ok (.ireturn, 1) := dr_172 (by decide +kernel)
set_option maxRecDepth 100000 in
theorem dL_law_1232 : decode cL_law 1232 = .ok (.aload_n 1, 1) := dr_43 (by decide +kernel)
set_option maxRecDepth 100000 in
theorem dL_law_1233 : decode cL_law 1233 = .ok (.aload_n 0, 1) := dr_42 (by decide +kernel)
set_option maxRecDepth 100000 in
theorem dL_law_1234 : decode cL_law 1234 = .ok (.iload 4, 2) := dr_21 (by decide +kernel)
set_option maxRecDepth 100000 in
theorem dL_law_1236 : decode cL_law 1236 = .ok (.iconst 1, 1) := dr_4 (by decide +kernel)
set_option maxRecDepth 100000 in
theorem dL_law_1237 : decode cL_law 1237 = .ok (.iadd, 1) := dr_96 (by decide +kernel)
set_option maxRecDepth 100000 in
theorem dL_law_1238 : decode cL_law 1238 = .ok (.iaload, 1) := dr_46 (by decide +kernel)
set_option maxRecDepth 100000 in
theorem dL_law_1239 : decode cL_law 1239 = .ok (.invokevirtual 164, 3) := dr_182 (by decide +kernel)
set_option maxRecDepth 100000 in
theorem dL_law_1242 : decode cL_law 1242 = .ok (.pop, 1) := dr_87 (by decide +kernel)
set_option maxRecDepth 100000 in
theorem dL_law_1243 : decode cL_law 1243 = .ok (.aload_n 2, 1) := dr_44 (by decide +kernel)
set_option maxRecDepth 100000 in
theorem dL_law_1244 : decode cL_law 1244 = .ok (.aload_n 0, 1) := dr_42 (by decide +kernel)
set_option maxRecDepth 100000 in
theorem dL_law_1245 : decode cL_law 1245 = .ok (.iload 4, 2) := dr_21 (by decide +kernel)
set_option maxRecDepth 100000 in
theorem dL_law_1247 : decode cL_law 1247 = .ok (.iconst 1, 1) := dr_4 (by decide +kernel)
set_option maxRecDepth 100000 in
theorem dL_law_1248 : decode cL_law 1248 = .ok (.iadd, 1) := dr_96 (by decide +kernel)
set_option maxRecDepth 100000 in
theorem dL_law_1249 : decode cL_law 1249 = .ok (.iaload, 1) := dr_46 (by decide +kernel)
set_option maxRecDepth 100000 in
theorem dL_law_1250 : decode cL_law 1250 = .ok (.invokevirtual 167, 3) := dr_182 (by decide +kernel)
set_option maxRecDepth 100000 in
theorem dL_law_1253 : decode cL_law 1253 = .ok (.pop, 1) := dr_87 (by decide +kernel)
set_option maxRecDepth 100000 in
theorem dL_law_1254 : decode cL_law 1254 = .ok (.goto 268, 3) := dr_167 (by decide +kernel)
set_option maxRecDepth 100000 in
theorem dL_law_1257 : decode cL_law 1257 = .ok (.aload_n 1, 1) := dr_43 (by decide +kernel)
set_option maxRecDepth 100000 in
theorem dL_law_1258 : decode cL_law 1258 = .ok (.aload_n 0, 1) := dr_42 (by decide +kernel)
set_option maxRecDepth 100000 in
theorem dL_law_1259 : decode cL_law 1259 = .ok (.iload 4, 2) := dr_21 (by decide +kernel)
set_option maxRecDepth 100000 in
theorem dL_law_1261 : decode cL_law 1261 = .ok (.iconst 1, 1) := dr_4 (by decide +kernel)
set_option maxRecDepth 100000 in
theorem dL_law_1262 : decode cL_law 1262 = .ok (.iadd, 1) := dr_96 (by decide +kernel)
set_option maxRecDepth 100000 in
theorem dL_law_1263 : decode cL_law 1263 = .ok (.iaload, 1) := dr_46 (by decide +kernel)
set_option maxRecDepth 100000 in
theorem dL_law_1264 : decode cL_law 1264 = .ok (.aload_n 0, 1) := dr_42 (by decide +kernel)
set_option maxRecDepth 100000 in
theorem dL_law_1265 : decode cL_law 1265 = .ok (.iload 4, 2) := dr_21 (by decide +kernel)
set_option maxRecDepth 100000 in
theorem dL_law_1267 : decode cL_law 1267 = .ok (.iconst 2, 1) := dr_5 (by decide +kernel)
set_option maxRecDepth 100000 in
theorem dL_law_1268 : decode cL_law 1268 = .ok (.iadd, 1) := dr_96 (by decide +kernel)
set_option maxRecDepth 100000 in
theorem dL_law_1269 : decode cL_law 1269 = .ok (.iaload, 1) := dr_46 (by decide +kernel)
set_option maxRecDepth 100000 in
theorem dL_law_1270 : decode cL_law 1270 = .ok (.aload_n 0, 1) := dr_42 (by decide +kernel)
set_option maxRecDepth 100000 in
theorem dL_law_1271 : decode cL_law 1271 = .ok (.iload 4, 2) := dr_21 (by decide +kernel)
set_option maxRecDepth 100000 in
theorem dL_law_1273 : decode cL_law 1273 = .ok (.iconst 3, 1) := dr_6 (by decide +kernel)
set_option maxRecDepth 100000 in
theorem dL_law_1274 : decode cL_law 1274 = .ok (.iadd, 1) := dr_96 (by decide +kernel)
set_option maxRecDepth 100000 in
theorem dL_law_1275 : decode cL_law 1275 = .ok (.iaload, 1) := dr_46 (by decide +kernel)
set_option maxRecDepth 100000 in
theorem dL_law_1276 : decode cL_law 1276 = .ok (.invokevirtual 168, 3) := dr_182 (by decide +kernel)
set_option maxRecDepth 100000 in
theorem dL_law_1279 : decode cL_law 1279 = .ok (.pop, 1) := dr_87 (by decide +kernel)
set_option maxRecDepth 100000 in
theorem dL_law_1280 : decode cL_law 1280 = .ok (.aload_n 2, 1) := dr_44 (by decide +kernel)
set_option maxRecDepth 100000 in
theorem dL_law_1281 : decode cL_law 1281 = .ok (.aload_n 0, 1) := dr_42 (by decide +kernel)
set_option maxRecDepth 100000 in
theorem dL_law_1282 : decode cL_law 1282 = .ok (.iload 4, 2) := dr_21 (by decide +kernel)
set_option maxRecDepth 100000 in
theorem dL_law_1284 : decode cL_law 1284 = .ok (.iconst 1, 1) := dr_4 (by decide +kernel)
set_option maxRecDepth 100000 in
theorem dL_law_1285 : decode cL_law 1285 = .ok (.iadd, 1) := dr_96 (by decide +kernel)
set_option maxRecDepth 100000 in
theorem dL_law_1286 : decode cL_law 1286 = .ok (.iaload, 1) := dr_46 (by decide +kernel)
set_option maxRecDepth 100000 in
theorem dL_law_1287 : decode cL_law 1287 = .ok (.aload_n 0, 1) := dr_42 (by decide +kernel)
set_option maxRecDepth 100000 in
theorem dL_law_1288 : decode cL_law 1288 = .ok (.iload 4, 2) := dr_21 (by decide +kernel)
set_option maxRecDepth 100000 in
theorem dL_law_1290 : decode cL_law 1290 = .ok (.iconst 2, 1) := dr_5 (by decide +kernel)
set_option maxRecDepth 100000 in
theorem dL_law_1291 : decode cL_law 1291 = .ok (.iadd, 1) := dr_96 (by decide +kernel)
set_option maxRecDepth 100000 in
theorem dL_law_1292 : decode cL_law 1292 = .ok (.iaload, 1) := dr_46 (by decide +kernel)
set_option maxRecDepth 100000 in
theorem dL_law_1293 : decode cL_law 1293 = .ok (.aload_n 0, 1) := dr_42 (by decide +kernel)
set_option maxRecDepth 100000 in
theorem dL_law_1294 : decode cL_law 1294 = .ok (.iload 4, 2) := dr_21 (by decide +kernel)
set_option maxRecDepth 100000 in
theorem dL_law_1296 : decode cL_law 1296 = .ok (.iconst 3, 1) := dr_6 (by decide +kernel)
set_option maxRecDepth 100000 in
theorem dL_law_1297 : decode cL_law 1297 = .ok (.iadd, 1) := dr_96 (by decide +kernel)
set_option maxRecDepth 100000 in
theorem dL_law_1298 : decode cL_law 1298 = .ok (.iaload, 1) := dr_46 (by decide +kernel)
set_option maxRecDepth 100000 in
theorem dL_law_1299 : decode cL_law 1299 = .ok (.invokevirtual 171, 3) := dr_182 (by decide +kernel)
set_option maxRecDepth 100000 in
theorem dL_law_1302 : decode cL_law 1302 = .ok (.pop, 1) := dr_87 (by decide +kernel)
set_option maxRecDepth 100000 in
theorem dL_law_1303 : decode cL_law 1303 = .ok (.goto 219, 3) := dr_167 (by decide +kernel)
set_option maxRecDepth 100000 in
theorem dL_law_1306 : decode cL_law 1306 = .ok (.aload_n 1, 1) := dr_43 (by decide +kernel)
set_option maxRecDepth 100000 in
theorem dL_law_1307 : decode cL_law 1307 = .ok (.invokevirtual 172, 3) := dr_182 (by decide +kernel)
set_option maxRecDepth 100000 in
theorem dL_law_1310 : decode cL_law 1310 = .ok (.pop, 1) := dr_87 (by decide +kernel)
set_option maxRecDepth 100000 in
theorem dL_law_1311 : decode cL_law 1311 = .ok (.aload_n 2, 1) := dr_44 (by decide +kernel)
set_option maxRecDepth 100000 in
theorem dL_law_1312 : decode cL_law 1312 = .ok (.invokevirtual 175, 3) := dr_182 (by decide +kernel)
set_option maxRecDepth 100000 in
theorem dL_law_1315 : decode cL_law 1315 = .ok (.pop, 1) := dr_87 (by decide +kernel)
set_option maxRecDepth 100000 in
theorem dL_law_1316 : decode cL_law 1316 = .ok (.goto 206, 3) := dr_167 (by decide +kernel)
set_option maxRecDepth 100000 in
theorem dL_law_1319 : decode cL_law 1319 = .ok (.aload_n 1, 1) := dr_43 (by decide +kernel)
set_option maxRecDepth 100000 in
theorem dL_law_1320 : decode cL_law 1320 = .ok (.invokevirtual 176, 3) := dr_182 (by decide +kernel)
set_option maxRecDepth 100000 in
theorem dL_law_1323 : decode cL_law 1323 = .ok (.pop, 1) := dr_87 (by decide +kernel)
set_option maxRecDepth 100000 in
theorem dL_law_1324 : decode cL_law 1324 = .ok (.aload_n 2, 1) := dr_44 (by decide +kernel)
set_option maxRecDepth 100000 in
theorem dL_law_1325 : decode cL_law 1325 = .ok (.invokevirtual 179, 3) := dr_182 (by decide +kernel)
set_option maxRecDepth 100000 in
theorem dL_law_1328 : decode cL_law 1328 = .ok (.pop, 1) := dr_87 (by decide +kernel)
set_option maxRecDepth 100000 in
theorem dL_law_1329 : decode cL_law 1329 = .ok (.goto 193, 3) := dr_167 (by decide +kernel)
set_option maxRecDepth 100000 in
theorem dL_law_1332 : decode cL_law 1332 = .ok (.aload_n 1, 1) := dr_43 (by decide +kernel)
set_option maxRecDepth 100000 in
theorem dL_law_1333 : decode cL_law 1333 = .ok (.aload_n 0, 1) := dr_42 (by decide +kernel)
set_option maxRecDepth 100000 in
theorem dL_law_1334 : decode cL_law 1334 = .ok (.iload 4, 2) := dr_21 (by decide +kernel)
set_option maxRecDepth 100000 in
theorem dL_law_1336 : decode cL_law 1336 = .ok (.iconst 1, 1) := dr_4 (by decide +kernel)
set_option maxRecDepth 100000 in
theorem dL_law_1337 : decode cL_law 1337 = .ok (.iadd, 1) := dr_96 (by decide +kernel)
set_option maxRecDepth 100000 in
theorem dL_law_1338 : decode cL_law 1338 = .ok (.iaload, 1) := dr_46 (by decide +kernel)
set_option maxRecDepth 100000 in
theorem dL_law_1339 : decode cL_law 1339 = .ok (.aload_n 0, 1) := dr_42 (by decide +kernel)
set_option maxRecDepth 100000 in
theorem dL_law_1340 : decode cL_law 1340 = .ok (.iload 4, 2) := dr_21 (by decide +kernel)
set_option maxRecDepth 100000 in
theorem dL_law_1342 : decode cL_law 1342 = .ok (.iconst 2, 1) := dr_5 (by decide +kernel)
set_option maxRecDepth 100000 in
theorem dL_law_1343 : decode cL_law 1343 = .ok (.iadd, 1) := dr_96 (by decide +kernel)
set_option maxRecDepth 100000 in
theorem dL_law_1344 : decode cL_law 1344 = .ok (.iaload, 1) := dr_46 (by decide +kernel)
set_option maxRecDepth 100000 in
theorem dL_law_1345 : decode cL_law 1345 = .ok (.invokevirtual 180, 3) := dr_182 (by decide +kernel)
set_option maxRecDepth 100000 in
theorem dL_law_1348 : decode cL_law 1348 = .ok (.pop, 1) := dr_87 (by decide +kernel)
set_option maxRecDepth 100000 in
theorem dL_law_1349 : decode cL_law 1349 = .ok (.aload_n 2, 1) := dr_44 (by decide +kernel)
set_option maxRecDepth 100000 in
theorem dL_law_1350 : decode cL_law 1350 = .ok (.aload_n 0, 1) := dr_42 (by decide +kernel)
set_option maxRecDepth 100000 in
theorem dL_law_1351 : decode cL_law 1351 = .ok (.iload 4, 2) := dr_21 (by decide +kernel)
set_option maxRecDepth 100000 in
theorem dL_law_1353 : decode cL_law 1353 = .ok (.iconst 1, 1) := dr_4 (by decide +kernel)
set_option maxRecDepth 100000 in
theorem dL_law_1354 : decode cL_law 1354 = .ok (.iadd, 1) := dr_96 (by decide +kernel)
set_option maxRecDepth 100000 in
theorem dL_law_1355 : decode cL_law 1355 = .ok (.iaload, 1) := dr_46 (by decide +kernel)
set_option maxRecDepth 100000 in
theorem dL_law_1356 : decode cL_law 1356 = .ok (.aload_n 0, 1) := dr_42 (by decide +kernel)
set_option maxRecDepth 100000 in
theorem dL_law_1357 : decode cL_law 1357 = .ok (.iload 4, 2) := dr_21 (by decide +kernel)
set_option maxRecDepth 100000 in
theorem dL_law_1359 : decode cL_law 1359 = .ok (.iconst 2, 1) := dr_5 (by decide +kernel)
set_option maxRecDepth 100000 in
theorem dL_law_1360 : decode cL_law 1360 = .ok (.iadd, 1) := dr_96 (by decide +kernel)
set_option maxRecDepth 100000 in
theorem dL_law_1361 : decode cL_law 1361 = .ok (.iaload, 1) := dr_46 (by decide +kernel)
set_option maxRecDepth 100000 in
theorem dL_law_1362 : decode cL_law 1362 = .ok (.invokevirtual 183, 3) := dr_182 (by decide +kernel)
set_option maxRecDepth 100000 in
theorem dL_law_1365 : decode cL_law 1365 = .ok (.pop, 1) := dr_87 (by decide +kernel)
set_option maxRecDepth 100000 in
theorem dL_law_1366 : decode cL_law 1366 = .ok (.goto 156, 3) := dr_167 (by decide +kernel)
set_option maxRecDepth 100000 in
theorem dL_law_1369 : decode cL_law 1369 = .ok (.aload_n 1, 1) := dr_43 (by decide +kernel)
set_option maxRecDepth 100000 in
theorem dL_law_1370 : decode cL_law 1370 = .ok (.aload_n 0, 1) := dr_42 (by decide +kernel)
set_option maxRecDepth 100000 in
theorem dL_law_1371 : decode cL_law 1371 = .ok (.iload 4, 2) := dr_21 (by decide +kernel)
set_option maxRecDepth 100000 in
theorem dL_law_1373 : decode cL_law 1373 = .ok (.iconst 1, 1) := dr_4 (by decide +kernel)
set_option maxRecDepth 100000 in
theorem dL_law_1374 : decode cL_law 1374 = .ok (.iadd, 1) := dr_96 (by decide +kernel)
set_option maxRecDepth 100000 in
theorem dL_law_1375 : decode cL_law 1375 = .ok (.iaload, 1) := dr_46 (by decide +kernel)
set_option maxRecDepth 100000 in
theorem dL_law_1376 : decode cL_law 1376 = .ok (.invokevirtual 184, 3) := dr_182 (by decide +kernel)
set_option maxRecDepth 100000 in
theorem dL_law_1379 : decode cL_law 1379 = .ok (.pop, 1) := dr_87 (by decide +kernel)
set_option maxRecDepth 100000 in
theorem dL_law_1380 : decode cL_law 1380 = .ok (.aload_n 2, 1) := dr_44 (by decide +kernel)
set_option maxRecDepth 100000 in
theorem dL_law_1381 : decode cL_law 1381 = .ok (.aload_n 0, 1) := dr_42 (by decide +kernel)
set_option maxRecDepth 100000 in
theorem dL_law_1382 : decode cL_law 1382 = .ok (.iload 4, 2) := dr_21 (by decide +kernel)
set_option maxRecDepth 100000 in
theorem dL_law_1384 : decode cL_law 1384 = .ok (.iconst 1, 1) := dr_4 (by decide +kernel)
set_option maxRecDepth 100000 in
theorem dL_law_1385 : decode cL_law 1385 = .ok (.iadd, 1) := dr_96 (by decide +kernel)
set_option maxRecDepth 100000 in
theorem dL_law_1386 : decode cL_law 1386 = .ok (.iaload, 1) := dr_46 (by decide +kernel)
set_option maxRecDepth 100000 in
theorem dL_law_1387 : decode cL_law 1387 = .ok (.invokevirtual 187, 3) := dr_182 (by decide +kernel)
set_option maxRecDepth 100000 in
theorem dL_law_1390 : decode cL_law 1390 = .ok (.pop, 1) := dr_87 (by decide +kernel)
set_option maxRecDepth 100000 in
theorem dL_law_1391 : decode cL_law 1391 = .ok (.goto 131, 3) := dr_167 (by decide +kernel)
set_option maxRecDepth 100000 in
theorem dL_law_1394 : decode cL_law 1394 = .ok (.aload_n 1, 1) := dr_43 (by decide +kernel)
set_option maxRecDepth 100000 in
theorem dL_law_1395 : decode cL_law 1395 = .ok (.aload_n 0, 1) := dr_42 (by decide +kernel)
set_option maxRecDepth 100000 in
theorem dL_law_1396 : decode cL_law 1396 = .ok (.iload 4, 2) := dr_21 (by decide +kernel)
set_option maxRecDepth 100000 in
theorem dL_law_1398 : decode cL_law 1398 = .ok (.iconst 1, 1) := dr_4 (by decide +kernel)
set_option maxRecDepth 100000 in
theorem dL_law_1399 : decode cL_law 1399 = .ok (.iadd, 1) := dr_96 (by decide +kernel)
set_option maxRecDepth 100000 in
theorem dL_law_1400 : decode cL_law 1400 = .ok (.iaload, 1) := dr_46 (by decide +kernel)
set_option maxRecDepth 100000 in
theorem dL_law_1401 : decode cL_law 1401 = .ok (.invokevirtual 188, 3) := dr_182 (by decide +kernel)
set_option maxRecDepth 100000 in
theorem dL_law_1404 : decode cL_law 1404 = .ok (.pop, 1) := dr_87 (by decide +kernel)
set_option maxRecDepth 100000 in
theorem dL_law_1405 : decode cL_law 1405 = .ok (.aload_n 2, 1) := dr_44 (by decide +kernel)
set_option maxRecDepth 100000 in
theorem dL_law_1406 : decode cL_law 1406 = .ok (.aload_n 0, 1) := dr_42 (by decide +kernel)
set_option maxRecDepth 100000 in
theorem dL_law_1407 : decode cL_law 1407 = .ok (.iload 4, 2) := dr_21 (by decide +kernel)
set_option maxRecDepth 100000 in
theorem dL_law_1409 : decode cL_law 1409 = .ok (.iconst 1, 1) := dr_4 (by decide +kernel)
set_option maxRecDepth 100000 in
theorem dL_law_1410 : decode cL_law 1410 = .ok (.iadd, 1) := dr_96 (by decide +kernel)
set_option maxRecDepth 100000 in
theorem dL_law_1411 : decode cL_law 1411 = .ok (.iaload, 1) := dr_46 (by decide +kernel)
set_option maxRecDepth 100000 in
theorem dL_law_1412 : decode cL_law 1412 = .ok (.invokevirtual 191, 3) := dr_182 (by decide +kernel)
set_option maxRecDepth 100000 in
theorem dL_law_1415 : decode cL_law 1415 = .ok (.pop, 1) := dr_87 (by decide +kernel)
set_option maxRecDepth 100000 in
theorem dL_law_1416 : decode cL_law 1416 = .ok (.goto 106, 3) := dr_167 (by decide +kernel)
set_option maxRecDepth 100000 in
theorem dL_law_1419 : decode cL_law 1419 = .ok (.aload_n 1, 1) := dr_43 (by decide +kernel)
set_option maxRecDepth 100000 in
theorem dL_law_1420 : decode cL_law 1420 = .ok (.aload_n 0, 1) := dr_42 (by decide +kernel)
set_option maxRecDepth 100000 in
theorem dL_law_1421 : decode cL_law 1421 = .ok (.iload 4, 2) := dr_21 (by decide +kernel)
set_option maxRecDepth 100000 in
theorem dL_law_1423 : decode cL_law 1423 = .ok (.iconst 1, 1) := dr_4 (by decide +kernel)
set_option maxRecDepth 100000 in
theorem dL_law_1424 : decode cL_law 1424 = .ok (.iadd, 1) := dr_96 (by decide +kernel)
set_option maxRecDepth 100000 in
theorem dL_law_1425 : decode cL_law 1425 = .ok (.iaload, 1) := dr_46 (by decide +kernel)
set_option maxRecDepth 100000 in
theorem dL_law_1426 : decode cL_law 1426 = .ok (.invokevirtual 192, 3) := dr_182 (by decide +kernel)
set_option maxRecDepth 100000 in
theorem dL_law_1429 : decode cL_law 1429 = .ok (.pop, 1) := dr_87 (by decide +kernel)
set_option maxRecDepth 100000 in
theorem dL_law_1430 : decode cL_law 1430 = .ok (.aload_n 2, 1) := dr_44 (by decide +kernel)
set_option maxRecDepth 100000 in
theorem dL_law_1431 : decode cL_law 1431 = .ok (.aload_n 0, 1) := dr_42 (by decide +kernel)
set_option maxRecDepth 100000 in
theorem dL_law_1432 : decode cL_law 1432 = .ok (.iload 4, 2) := dr_21 (by decide +kernel)
set_option maxRecDepth 100000 in
theorem dL_law_1434 : decode cL_law 1434 = .ok (.iconst 1, 1) := dr_4 (by decide +kernel)
set_option maxRecDepth 100000 in
theorem dL_law_1435 : decode cL_law 1435 = .ok (.iadd, 1) := dr_96 (by decide +kernel)
set_option maxRecDepth 100000 in
theorem dL_law_1436 : decode cL_law 1436 = .ok (.iaload, 1) := dr_46 (by decide +kernel)
set_option maxRecDepth 100000 in
theorem dL_law_1437 : decode cL_law 1437 = .ok (.invokevirtual 195, 3) := dr_182 (by decide +kernel)
set_option maxRecDepth 100000 in
theorem dL_law_1440 : decode cL_law 1440 = .ok (.pop, 1) := dr_87 (by decide +kernel)
set_option maxRecDepth 100000 in
theorem dL_law_1441 : decode cL_law 1441 = .ok (.goto 81, 3) := dr_167 (by decide +kernel)
set_option maxRecDepth 100000 in
theorem dL_law_1444 : decode cL_law 1444 = .ok (.aload_n 1, 1) := dr_43 (by decide +kernel)
set_option maxRecDepth 100000 in
theorem dL_law_1445 : decode cL_law 1445 = .ok (.aload_n 0, 1) := dr_42 (by decide +kernel)
set_option maxRecDepth 100000 in
theorem dL_law_1446 : decode cL_law 1446 = .ok (.iload 4, 2) := dr_21 (by decide +kernel)
set_option maxRecDepth 100000 in
theorem dL_law_1448 : decode cL_law 1448 = .ok (.iconst 1, 1) := dr_4 (by decide +kernel)
set_option maxRecDepth 100000 in
theorem dL_law_1449 : decode cL_law 1449 = .ok (.iadd, 1) := dr_96 (by decide +kernel)
set_option maxRecDepth 100000 in
theorem dL_law_1450 : decode cL_law 1450 = .ok (.iaload, 1) := dr_46 (by decide +kernel)
set_option maxRecDepth 100000 in
theorem dL_law_1451 : decode cL_law 1451 = .ok (.invokevirtual 196, 3) := dr_182 (by decide +kernel)
set_option maxRecDepth 100000 in
theorem dL_law_1454 : decode cL_law 1454 = .ok (.pop, 1) := dr_87 (by decide +kernel)
set_option maxRecDepth 100000 in
theorem dL_law_1455 : decode cL_law 1455 = .ok (.aload_n 2, 1) := dr_44 (by decide +kernel)
set_option maxRecDepth 100000 in
theorem dL_law_1456 : decode cL_law 1456 = .ok (.aload_n 0, 1) := dr_42 (by decide +kernel)
set_option maxRecDepth 100000 in
theorem dL_law_1457 : decode cL_law 1457 = .ok (.iload 4, 2) := dr_21 (by decide +kernel)
set_option maxRecDepth 100000 in
theorem dL_law_1459 : decode cL_law 1459 = .ok (.iconst 1, 1) := dr_4 (by decide +kernel)
set_option maxRecDepth 100000 in
theorem dL_law_1460 : decode cL_law 1460 = .ok (.iadd, 1) := dr_96 (by decide +kernel)
set_option maxRecDepth 100000 in
theorem dL_law_1461 : decode cL_law 1461 = .ok (.iaload, 1) := dr_46 (by decide +kernel)
set_option maxRecDepth 100000 in
theorem dL_law_1462 : decode cL_law 1462 = .ok (.invokevirtual 199, 3) := dr_182 (by decide +kernel)
set_option maxRecDepth 100000 in
theorem dL_law_1465 : decode cL_law 1465 = .ok (.pop, 1) := dr_87 (by decide +kernel)
set_option maxRecDepth 100000 in
theorem dL_law_1466 : decode cL_law 1466 = .ok (.goto 56, 3) := dr_167 (by decide +kernel)
set_option maxRecDepth 100000 in
theorem dL_law_1469 : decode cL_law 1469 = .ok (.aload_n 1, 1) := dr_43 (by decide +kernel)
set_option maxRecDepth 100000 in
theorem dL_law_1470 : decode cL_law 1470 = .ok (.aload_n 0, 1) := dr_42 (by decide +kernel)
set_option maxRecDepth 100000 in
theorem dL_law_1471 : decode cL_law 1471 = .ok (.iload 4, 2) := dr_21 (by decide +kernel)
set_option maxRecDepth 100000 in
theorem dL_law_1473 : decode cL_law 1473 = .ok (.iconst 1, 1) := dr_4 (by decide +kernel)
set_option maxRecDepth 100000 in
theorem dL_law_1474 : decode cL_law 1474 = .ok (.iadd, 1) := dr_96 (by decide +kernel)
set_option maxRecDepth 100000 in
theorem dL_law_1475 : decode cL_law 1475 = .ok (.iaload, 1) := dr_46 (by decide +kernel)
set_option maxRecDepth 100000 in
theorem dL_law_1476 : decode cL_law 1476 = .ok (.invokevirtual 200, 3) := dr_182 (by decide +kernel)
set_option maxRecDepth 100000 in
theorem dL_law_1479 : decode cL_law 1479 = .ok (.pop, 1) := dr_87 (by decide +kernel)
set_option maxRecDepth 100000 in
theorem dL_law_1480 : decode cL_law 1480 = .ok (.aload_n 2, 1) := dr_44 (by decide +kernel)
set_option maxRecDepth 100000 in
theorem dL_law_1481 : decode cL_law 1481 = .ok (.aload_n 0, 1) := dr_42 (by decide +kernel)
set_option maxRecDepth 100000 in
theorem dL_law_1482 : decode cL_law 1482 = .ok (.iload 4, 2) := dr_21 (by decide +kernel)
set_option maxRecDepth 100000 in
theorem dL_law_1484 : decode cL_law 1484 = .ok (.iconst 1, 1) := dr_4 (by decide +kernel)
set_option maxRecDepth 100000 in
theorem dL_law_1485 : decode cL_law 1485 = .ok (.iadd, 1) := dr_96 (by decide +kernel)
set_option maxRecDepth 100000 in
theorem dL_law_1486 : decode cL_law 1486 = .ok (.iaload, 1) := dr_46 (by decide +kernel)
set_option maxRecDepth 100000 in
theorem dL_law_1487 : decode cL_law 1487 = .ok (.invokevirtual 203, 3) := dr_182 (by decide +kernel)
set_option maxRecDepth 100000 in
theorem dL_law_1490 : decode cL_law 1490 = .ok (.pop, 1) := dr_87 (by decide +kernel)
set_option maxRecDepth 100000 in
theorem dL_law_1491 : decode cL_law 1491 = .ok (.goto 31, 3) := dr_167 (by decide +kernel)
set_option maxRecDepth 100000 in
theorem dL_law_1494 : decode cL_law 1494 = .ok (.aload_n 1, 1) := dr_43 (by decide +kernel)
set_option maxRecDepth 100000 in
theorem dL_law_1495 : decode cL_law 1495 = .ok (.aload_n 0, 1) := dr_42 (by decide +kernel)
set_option maxRecDepth 100000 in
theorem dL_law_1496 : decode cL_law 1496 = .ok (.iload 4, 2) := dr_21 (by decide +kernel)
set_option maxRecDepth 100000 in
theorem dL_law_1498 : decode cL_law 1498 = .ok (.iconst 1, 1) := dr_4 (by decide +kernel)
set_option maxRecDepth 100000 in
theorem dL_law_1499 : decode cL_law 1499 = .ok (.iadd, 1) := dr_96 (by decide +kernel)
set_option maxRecDepth 100000 in
theorem dL_law_1500 : decode cL_law 1500 = .ok (.iaload, 1) := dr_46 (by decide +kernel)
set_option maxRecDepth 100000 in
theorem dL_law_1501 : decode cL_law 1501 = .ok (.aload_n 3, 1) := dr_45 (by decide +kernel)
set_option maxRecDepth 100000 in
theorem dL_law_1502 : decode cL_law 1502 = .ok (.invokestatic 204, 3) := dr_184 (by decide +kernel)
set_option maxRecDepth 100000 in
theorem dL_law_1505 : decode cL_law 1505 = .ok (.istore 5, 2) := dr_54 (by decide +kernel)
set_option maxRecDepth 100000 in
theorem dL_law_1507 : decode cL_law 1507 = .ok (.aload_n 2, 1) := dr_44 (by decide +kernel)
set_option maxRecDepth 100000 in
theorem dL_law_1508 : decode cL_law 1508 = .ok (.aload_n 0, 1) := dr_42 (by decide +kernel)
set_option maxRecDepth 100000 in
theorem dL_law_1509 : decode cL_law 1509 = .ok (.iload 4, 2) := dr_21 (by decide +kernel)
set_option maxRecDepth 100000 in
theorem dL_law_1511 : decode cL_law 1511 = .ok (.iconst 1, 1) := dr_4 (by decide +kernel)
set_option maxRecDepth 100000 in
theorem dL_law_1512 : decode cL_law 1512 = .ok (.iadd, 1) := dr_96 (by decide +kernel)
set_option maxRecDepth 100000 in
theorem dL_law_1513 : decode cL_law 1513 = .ok (.iaload, 1) := dr_46 (by decide +kernel)
set_option maxRecDepth 100000 in
theorem dL_law_1514 : decode cL_law 1514 = .ok (.invokevirtual 207, 3) := dr_182 (by decide +kernel)
set_option maxRecDepth 100000 in
theorem dL_law_1517 : decode cL_law 1517 = .ok (.lstore 6, 2) := dr_55 (by decide +kernel)
set_option maxRecDepth 100000 in
theorem dL_law_1519 : decode cL_law 1519 = .ok (.goto 3, 3) := dr_167 (by decide +kernel)
set_option maxRecDepth 100000 in
theorem dL_law_1522 : decode cL_law 1522 = .ok (.iinc 4 6, 3) := dr_132 (by decide +kernel)
set_option maxRecDepth 100000 in
theorem dL_law_1525 : decode cL_law 1525 = .ok (.goto (-1502), 3) := dr_167 (by decide +kernel)
set_option maxRecDepth 100000 in
theorem dL_law_1528 : decode cL_law 1528 = .ok (.iconst 1, 1) := dr_4 (by decide +kernel)
set_option maxRecDepth 100000 in
theorem dL_law_1529 : decode cL_law 1529 = .ok (.ireturn, 1) := dr_172 (by decide +kernel)
end
section
theorem qde_65 : (parseMethodDescriptor "(LWinnerTeaches$States;)V").map (fun d => d.parameters.length) = some 1 := by decide +kernel
/-! MAKING: the cells come one behind the other, at addresses from bs on, in the order of the layout -/
def adb (bs : Nat) : Nat → Nat := fun i => bs + i
/-- while cells are made: n of them there are, all that came since bs; kc cells of ks slots may still come; lq: the layout at the end -/
abbrev EK (X : Launch → State → (Nat → Prop) → Prop) (bs n kc ks : Nat) (lq : List Ent) : EB := (fun _ l _ _ s _ _ _ _ _ cs _ _ _ A _ => (s.heap.size + cs = bs + n ∧ ∀ q, A q → bs ≤ q) ∧ X l s A, kc, ks, lq)
def X0 : Launch → State → (Nat → Prop) → Prop := fun _ _ _ => True
abbrev ps (lay : List Ent) (e : Ent) : List Ent := lay ++ [e]
def zm (m : Wm) (a : Nat) : Wm := (fun b j => if b = a then 0 else m.1 b j, fun b j => if b = a then 0 else m.2.1 b j, fun b j => if b = a then none else m.2.2 b j)
theorem len_push {lay : List Ent} {n : Nat} {e : Ent} (h : lay.length = n) : (ps lay e).length = n + 1 := by simp [h]
theorem at_new {lay : List Ent} {n : Nat} {e : Ent} (h : lay.length = n) : (ps lay e)[n]? = some e := by subst h; simp
theorem at_old {lay : List Ent} {i : Nat} {x e : Ent} (h : lay[i]? = some x) : (ps lay e)[i]? = some x := by
  rw [List.getElem?_append_left (List.getElem?_eq_some_iff.mp h).1]; exact h
theorem cells_len {lay : List Ent} {ad : Nat → Nat} {cA : Nat → ClassId} {m : Wm} : (cellsOf lay ad cA m).length = lay.length := by simp [cellsOf]
theorem cells_push {lay : List Ent} {ad : Nat → Nat} {cA : Nat → ClassId} {m : Wm} {n : Nat} {e : Ent} (hn : lay.length = n) : cellsOf lay ad cA m ++ [(ad n, cellE ad cA (zm m n) n e)] = cellsOf (ps lay e) ad cA (zm m n) := by
  subst hn
  apply List.ext_getElem?
  intro i
  rcases Nat.lt_trichotomy i lay.length with h | h | h
  · rw [List.getElem?_append_left (by rw [cells_len]; exact h)]
    simp only [cellsOf, List.getElem?_mapIdx, List.getElem?_append_left h]
    cases lay[i]? with
    | none => rfl
    | some e' =>
      simp only [Option.map_some]
      rw [cellE_frame (m := m) (m' := zm m lay.length) (by funext j; simp [zm, Nat.ne_of_lt h]) (by funext j; simp [zm, Nat.ne_of_lt h]) (by funext j; simp [zm, Nat.ne_of_lt h])]
  · subst h
    rw [List.getElem?_append_right (by rw [cells_len]; exact Nat.le_refl _), cells_len, cells_at (at_new rfl)]
    simp
  · rw [List.getElem?_eq_none (by simp [cells_len]; omega), List.getElem?_eq_none (by simp [cells_len]; omega)]
theorem fresh_at {lay : List Ent} {bs n q : Nat} {cA : Nat → ClassId} {m : Wm} {A : Nat → Prop} {G : va_G} {H1 : Heap} {x : va_E} (hn : lay.length = n) (hA : ∀ q, A q → bs ≤ q) (hP1 : va_P G vwCl (cellsOf lay (adb bs) cA m ++ [(q, x)]) H1) (hD1 : va_D A (cellsOf lay (adb bs) cA m ++ [(q, x)])) (hs : H1.size ≤ bs + n + 1) : q = bs + n := by
  have hl : (cellsOf lay (adb bs) cA m).length = n := by rw [cells_len, hn]
  have hi : (cellsOf lay (adb bs) cA m ++ [(q, x)])[n]? = some (q, x) := by
    rw [List.getElem?_append_right (by omega), hl]; simp
  have h1 : q < H1.size := (hP1 n (q, x) hi).lt
  have h2 : bs ≤ q := hA q (hD1.2 n (q, x) hi)
  rcases Nat.lt_or_ge (q - bs) n with h3 | h3
  · exfalso
    have hlt : q - bs < lay.length := by omega
    have hj : (cellsOf lay (adb bs) cA m ++ [(q, x)])[q - bs]? = some (adb bs (q - bs), cellE (adb bs) cA m (q - bs) lay[q - bs]) := by
      rw [List.getElem?_append_left (by omega)]
      exact cells_at (List.getElem?_eq_getElem hlt)
    have := hD1.1 (q - bs) n _ _ hj hi (by show bs + (q - bs) = q; omega)
    omega
  · omega
theorem cA_eq {G : va_G} {cA : Nat → ClassId} {cA' : ClassId} {ty : FieldType} {t : Nat} {s : State} (hK : va_K G vwCl (tysOf cA ++ [(cA', ty)]) s) (ht : (tysOf cA)[t]? = some (cA t, ty)) : cA' = cA t := by
  have h1 := (hK.2 7 (cA', ty) rfl).2
  have h2 := (hK.2 t (cA t, ty) (by rw [List.getElem?_append_left (List.getElem?_eq_some_iff.mp ht).1]; exact ht)).2
  cases ty with
  | object C =>
    obtain ⟨_, _, _, _, _, e1⟩ := h1
    obtain ⟨_, _, _, _, _, e2⟩ := h2
    exact Option.some.inj (e1.symm.trans e2)
  | _ =>
    have h1 : s.vm.findClass _ = some cA' := h1
    have h2 : s.vm.findClass _ = some (cA t) := h2
    exact Option.some.inj (h1.symm.trans h2)
theorem set_arR {lay : List Ent} {ad : Nat → Nat} {cA : Nat → ClassId} {m : Wm} {a ty n k b : Nat} (he : lay[a]? = some (.inr (ty, n))) (ht : 4 < ty) :
    (cellsOf lay ad cA m).set a (ad a, .inl (cA ty, n, .inr (.inr (.inr (.inr (va_up (fun j => (m.2.2 a j).map ad) k (some (ad b)))))))) = cellsOf lay ad cA (uR m a k (some b)) := by
  refine cells_set he ?_ (fun b hb => ⟨rfl, rfl, ?_⟩)
  · show Sum.inl (cA ty, arrV' ad (uR m a k (some b)) a ty n) = _
    unfold arrV'
    rw [if_neg (by omega), if_neg (by omega)]
    congr 7
    funext j
    by_cases hj : j = k
    · simp [uR, va_up, hj]
    · simp [uR, va_up, hj]
  · funext j; simp [uR, hb]
def dfl (c : Nat) : Value := match c with
  | 0 => .int 0
  | 1 => .long 0
  | _ => .null
theorem fld_born {ad : Nat → Nat} {m : Wm} {n j : Nat} {cs : List Nat} (h : ∀ c ∈ cs, c ≤ 2) (hj : j < cs.length) : vp_V (fldVs ad (zm m n) n cs) j = dfl (cs.getD j 0) := by
  have h1 : cs[j]? = some cs[j] := List.getElem?_eq_getElem hj
  have h2 := fldVs_at (ad := ad) (m := zm m n) (a := n) h1
  have h3 := h cs[j] (List.getElem_mem hj)
  unfold vp_V
  rw [List.getD_eq_getElem?_getD, h2, List.getD_eq_getElem?_getD, h1]
  simp only [Option.getD_some]
  revert h3
  generalize cs[j] = c
  intro h3
  match c, h3 with
  | 0, _ => simp [fldV, dfl, zm]
  | 1, _ => simp [fldV, dfl, zm]
  | 2, _ => simp [fldV, dfl, zm, va_rf]
def rmk (d kc ks : Nat) : Room := { frames := d, cells := kc, slots := ks, locals := 41 * d }
def QK (bs : Nat) (lay' : List Ent) (G : va_G) (cA : Nat → ClassId) (A : Nat → Prop) (m' : Wm) : Array Value → State → Outcome → State → Prop := fun _ st oc t => (oc = .returned none ∧ va_P G vwCl (cellsOf lay' (adb bs) cA m') t.heap ∧ va_D A (cellsOf lay' (adb bs) cA m')) ∧ va_F A st t
/-- a constructor's contract: from the layout lay to lay', from the world m to m' -/
def CtK (bs : Nat) (lay lay' : List Ent) (μ : MI) (d kc ks : Nat) (args : List Value) (m m' : Wm) : Prop :=
  ∀ (l : Launch) (G : va_G) (cA : Nat → ClassId), Met l μ.1 (.code μ.1 μ.2.1 μ.2.2.1 μ.2.2.2.2 :: TW) (rmk d kc ks) (va_Pc args (PCt lay (adb bs) G cA m (bs + lay.length))) (QK bs lay' G cA (va_A (cellsOf lay (adb bs) cA m) (bs + lay.length)) m') kc ks (va_A (cellsOf lay (adb bs) cA m) (bs + lay.length))
theorem CtK.of {bs n : Nat} {lay lay' : List Ent} {μ : MI} {d kc ks : Nat} {args : List Value} {m m' : Wm} (hy : plainName μ.1.cls = true) (ho : μ.2.2.2.1 = μ.1.cls) (hret : μ.2.2.2.2 = none) (hn : lay.length = n) (hng : (lg_sl args).length ≤ μ.2.2.1) (h : AWl lay (adb bs) (EK X0 bs n kc ks lay') μ d (fun v w => v = none ∧ w = m') 0 (lv_args 0 args) [] m) : CtK bs lay lay' μ d kc ks args m m' := by
  subst hn
  intro l G cA
  refine Met.ofW (cc := μ.2.1) (maxL := μ.2.2.1) (ret := μ.2.2.2.2) hy rfl ?_
  intro p e s mt args' below meth c s₁ B hml hv
  obtain ⟨rfl, hsz, hP, hK, hD0, hN⟩ := hv
  have hts := atoms_spec (ws := .code μ.1 μ.2.1 μ.2.2.1 μ.2.2.2.2 :: TW) B.pre
  have hD : va_D (va_A (cellsOf lay (adb bs) cA m) (bs + lay.length)) (cellsOf lay (adb bs) cA m) := hD0.self
  have hAb : ∀ q, va_A (cellsOf lay (adb bs) cA m) (bs + lay.length) q → bs ≤ q := by
    intro q hq
    rcases hq with ⟨k, x, hq⟩ | hq
    · have := (cells_adr hq).1
      show bs ≤ q
      rw [show q = adb bs k from this]
      exact Nat.le_add_right _ _
    · exact Nat.le_trans (Nat.le_add_right _ _) hq
  rw [lg_entry_eq]
  refine h p l e _ s mt _ below meth c s.heap [] 0 0 G cA (va_A (cellsOf lay (adb bs) cA m) (bs + lay.length)) _ _ ⟨⟨B.exec, B.bytes, hml, by rw [ho]; exact findClass_of_methodNamed B.named, fun w hw => hts w (List.mem_cons_of_mem _ hw)⟩, hK, fun q hq => Or.inr (by rw [← hsz]; exact hq), ⟨⟨⟨by rw [hsz]; rfl, hAb⟩, trivial⟩, fun h => ((name_of_methodNamed B.named B.method).1).trans h, hN⟩, ⟨Nat.le_refl _, Nat.le_refl _, by show 0 + kc ≤ kc; omega, by show 0 + ks ≤ ks; omega⟩, ?_⟩ hP hD va_S.rf (lv_entry args hng)
  intro v w H' locs' pc' ls' cs' sl' hr hc1 hc2 hq hP' hD' hS'
  obtain ⟨rfl, rfl⟩ := hq
  rcases hr with ⟨-, -, hd⟩ | ⟨x, ty, h1, -⟩ | ⟨x, h1, -⟩
  · refine W.widen (k := kc) (n := ks) hc1 hc2 ?_
    exact W.vret B.exec B.bytes (B.returns.trans hret) (fun t ht hW => ⟨⟨rfl, by rw [ht]; exact hP', hD'⟩, hS'.F ht⟩) hS'.2.2 hd B.notSynchronized
  · cases h1
  · cases h1
def CallI (own : String) (idx : Nat) (μ' : MI) (n : Nat) : Prop := Cond.methodLink own idx μ'.1 ∈ TW ∧ Cond.instanceMethod μ'.1 ∈ TW ∧ Cond.initialized μ'.1.cls ∈ TW ∧ Cond.code μ'.1 μ'.2.1 μ'.2.2.1 none ∈ TW ∧ (μ'.1.cls ≠ "java/lang/invoke/MethodHandle" ∧ μ'.1.cls ≠ "java/lang/invoke/VarHandle" ∧ (parseMethodDescriptor μ'.1.desc).map (fun d => d.parameters.length) = some n) ∧ μ'.2.2.1 ≤ 22 ∧ μ'.1.name = "<init>" ∧ μ'.2.2.2.2 = none
def CallIN (own : String) (idx : Nat) (host : String) (μ' : MI) (n : Nat) : Prop := (own, idx, μ'.1, host) ∈ NW ∧ Cond.instanceMethod μ'.1 ∈ TW ∧ Cond.initialized μ'.1.cls ∈ TW ∧ Cond.code μ'.1 μ'.2.1 μ'.2.2.1 none ∈ TW ∧ (μ'.1.cls ≠ "java/lang/invoke/MethodHandle" ∧ μ'.1.cls ≠ "java/lang/invoke/VarHandle" ∧ (parseMethodDescriptor μ'.1.desc).map (fun d => d.parameters.length) = some n) ∧ μ'.2.2.1 ≤ 22 ∧ μ'.1.name = "<init>" ∧ μ'.2.2.2.2 = none
theorem aw_runK {bs : Nat} {lay lay' : List Ent} {p : Program} {l : Launch} {e : Env} {R : Room} {s : State} {mt : MethodId} {args : Array Value} {below : List Frame} {meth : Method} {c : Code} {H : Heap} {locs : List Loc} {cs sl kc ks : Nat} {G : va_G} {cA : Nat → ClassId} {A : Nat → Prop} {m m' : Wm} {Qz : State → Prop} {pc : Nat} {ls : Array Slot} {st0 rest : List Value} {a : Array Value}
    (hr : va_Run p l e R s mt args below meth c H locs cs sl kc ks (F0 mt pc ls st0) rest (QK bs lay' G cA (va_A (cellsOf lay (adb bs) cA m) (bs + lay.length)) m' a) (va_A (cellsOf lay (adb bs) cA m) (bs + lay.length))) (hz : H.size = bs + lay.length) (hD : va_D A (cellsOf lay (adb bs) cA m)) (hS : va_S A s.heap H locs) (hA : ∀ q, s.heap.size ≤ q → A q)
    (kk : ∀ (H1 : Heap) (locs1 : List Loc), va_P G vwCl (cellsOf lay' (adb bs) cA m') H1 → va_D A (cellsOf lay' (adb bs) cA m') → va_S A s.heap H1 locs1 → W p l e R s mt args below meth c H1 locs1 (cs + kc) (sl + ks) Qz (F0 mt (pc + 3) ls rest)) : W p l e R s mt args below meth c H locs cs sl Qz (F0 mt pc ls st0) := by
  intro T hT X
  obtain ⟨v, st₀, t, T', L, h0, X', hL, e1, e2, ⟨⟨hv, hp, hd⟩, hz', hk⟩, st⟩ := hr T hT X
  cases hv
  rw [h0] at hz' hk
  have hAA : ∀ q, va_A (cellsOf lay (adb bs) cA m) (bs + lay.length) q → A q := by
    intro q hq
    rcases hq with ⟨k, x, hq⟩ | hq
    · exact hD.2 k (q, x) hq
    · exact hA q (Nat.le_trans hS.1 (by rw [hz]; exact hq))
  obtain ⟨t2, a1, b1⟩ := kk T'.heap (locs ++ L) (by rw [e1]; exact hp) (hd.weaken (fun k q hq h => hAA _ h))
    ⟨Nat.le_trans hS.1 (by rw [e1]; exact hz'), fun q h1 h2 => by rw [e1, hk q (Nat.lt_of_lt_of_le h1 hS.1) (fun z => h2 (hAA q z))]; exact hS.2.1 q h1 h2, fun q hq => by
      rcases List.mem_append.mp hq with h | h
      · exact hS.2.2 q h
      · exact hAA _ (hL q h)⟩ T' rfl X'
  exact ⟨t2, st t2 a1, b1⟩
/-- the heap's size, by the count -/
theorem size_of {p : Program} {l : Launch} {e : Env} {R : Room} {s : State} {mt : MethodId} {args : Array Value} {below : List Frame} {meth : Method} {c : Code} {T : State} {locs : List Loc} {cs sl : Nat} (X : Stand p l e R s mt args below meth c T locs cs sl) : T.heap.size ≤ s.heap.size + cs := X.same.2.2.1
theorem size_at {lay : List Ent} {bs n : Nat} {cA : Nat → ClassId} {m : Wm} {G : va_G} {H : Heap} (hn : lay.length = n) (h0 : 0 < n) (hP : va_P G vwCl (cellsOf lay (adb bs) cA m) H) : bs + n ≤ H.size := by
  have hlt : n - 1 < lay.length := by omega
  have := (hP (n - 1) _ (cells_at (List.getElem?_eq_getElem hlt))).lt
  have h2 : bs + (n - 1) < H.size := this
  omega
section AWK
variable {X : Launch → State → (Nat → Prop) → Prop} {lay lay1 lq : List Ent} {bs n kc ks kc' ks' : Nat} {μ : MI} {d : Nat} {Q : Option Value → Wm → Prop} {pc : Nat} {L : List (Nat × Value)} {rest st : List Value} {m m1 : Wm}
def NewOK (own : String) (idx : Nat) (C' : String) (T : u_T) (ty0 : Nat → FieldType) (N ci : Nat) (cs : List Nat) : Prop := (∀ w ∈ u_ws C' T N, w ∈ TW) ∧ (∀ k, k < N → parseFieldDescriptor (T k).2.2.1 = some (ty0 k)) ∧ Cond.classLink own idx C' ∈ TW ∧ Cond.instantiable C' N ∈ TW ∧ Cond.initialized C' ∈ TW ∧ vwCl[ci]? = some (C', T, N) ∧ cs.length = N ∧ (∀ c ∈ cs, c ≤ 2) ∧ ∀ j, j < N → defaultValue (ty0 j) = dfl (cs.getD j 0)
theorem aw_new {idx ci N : Nat} {C' : String} {T : u_T} {ty0 : Nat → FieldType} {cs' : List Nat} (hd : decode μ.2.1 pc = .ok (.new idx, 3)) (hn : lay.length = n) (hN : NewOK μ.2.2.2.1 idx C' T ty0 N ci cs')
    (k : AWl (ps lay (.inl (ci, cs'))) (adb bs) (EK X bs (n + 1) kc ks lq) μ d Q (pc + 3) L (.ref (adb bs n) :: rest) (zm m n)) : AWl lay (adb bs) (EK X bs n (kc + 1) (ks + N) lq) μ d Q pc L rest m := by
  intro p l e R s mt args below meth c H locs cs sl G cA A ls Qz C hP hD hS hl
  have hts := C.1.2.2.2.2
  obtain ⟨hr1, hr2, hr3, hr4⟩ := C.2.2.2.2.1
  have hr3 : cs + (kc + 1) ≤ R.cells := hr3
  have hr4 : sl + (ks + N) ≤ R.slots := hr4
  obtain ⟨⟨⟨hz, hA1⟩, hX⟩, hnm, hnw⟩ := C.2.2.2.1
  obtain ⟨n1, n2, n3, n4, n5, n6, n7, n8, n9⟩ := hN
  refine va_new (ci := ci) (fs := fldVs (adb bs) (zm m n) n cs') (C := C') (T := T) (N := N) C.1.1 C.1.2.1 hts n1 ty0 n2 C.1.2.2.2.1 (hts _ n3) (hts _ n4) (hts _ n5) C.2.1 hP hD hS C.2.2.1 n6 (fun j hj => by rw [fld_born n8 (by rw [n7]; exact hj)]; exact n9 j hj) (by omega) (by omega) hd (fun q H1 hP1 hD1 hS1 => ?_)
  intro T1 hT1 X1
  have hs : H1.size ≤ bs + n + 1 := by have := size_of X1; rw [hT1] at this; have hz : s.heap.size + cs = bs + n := hz; omega
  obtain rfl := fresh_at hn hA1 hP1 hD1 hs
  exact k p l e R s mt args below meth c H1 locs (cs + 1) (sl + N) G cA A ls Qz ⟨C.1, C.2.1, C.2.2.1, ⟨⟨⟨by show s.heap.size + (cs + 1) = bs + (n + 1); have hz : s.heap.size + cs = bs + n := hz; omega, hA1⟩, hX⟩, hnm, hnw⟩, ⟨hr1, hr2, by show (cs + 1) + kc ≤ R.cells; omega, by show (sl + N) + ks ≤ R.slots; omega⟩, C.2.2.2.2.2⟩ (cells_push (e := .inl (ci, cs')) hn ▸ hP1) (cells_push (e := .inl (ci, cs')) hn ▸ hD1) hS1 hl T1 hT1 X1
theorem aw_newa0 {v : Int32} {N : Nat} (hd : decode μ.2.1 pc = .ok (.newarray .int, 2)) (hn : lay.length = n) (hw : Cond.arrayClass .int ∈ TW) (hv : ¬ v < 0) (hN : v.toNatClampNeg = N) (hb : N * componentBytes .int ≤ 536870912)
    (k : AWl (ps lay (.inr (0, N))) (adb bs) (EK X bs (n + 1) kc ks lq) μ d Q (pc + 2) L (.ref (adb bs n) :: rest) (zm m n)) : AWl lay (adb bs) (EK X bs n (kc + 1) (ks + N) lq) μ d Q pc L (.int v :: rest) m := by
  intro p l e R s mt args below meth c H locs cs sl G cA A ls Qz C hP hD hS hl
  have hts := C.1.2.2.2.2
  obtain ⟨hr1, hr2, hr3, hr4⟩ := C.2.2.2.2.1
  have hr3 : cs + (kc + 1) ≤ R.cells := hr3
  have hr4 : sl + (ks + N) ≤ R.slots := hr4
  obtain ⟨⟨⟨hz, hA1⟩, hX⟩, hnm, hnw⟩ := C.2.2.2.1
  refine va_newa (atype := .int) (ty := .int) (a0 := (N, .inl (fun _ => 0))) C.1.1 C.1.2.1 (hts _ hw) rfl C.2.1 hP hD hS C.2.2.1 (fun cA' => rfl) hv hN hb (by omega) (by omega) hd (fun q cA' H1 hK1 hP1 hD1 hS1 => ?_)
  intro T1 hT1 X1
  have hs : H1.size ≤ bs + n + 1 := by have := size_of X1; rw [hT1] at this; have hz : s.heap.size + cs = bs + n := hz; omega
  obtain rfl := fresh_at hn hA1 hP1 hD1 hs
  obtain rfl := cA_eq (t := 0) hK1 rfl
  have hx : (Sum.inl (cA 0, (N, .inl (fun _ => 0))) : va_E) = cellE (adb bs) cA (zm m n) n (.inr (0, N)) := by
    simp [cellE, arrV', zm]
  rw [hx] at hP1 hD1
  exact k p l e R s mt args below meth c H1 locs (cs + 1) (sl + N) G cA A ls Qz ⟨C.1, C.2.1, C.2.2.1, ⟨⟨⟨by show s.heap.size + (cs + 1) = bs + (n + 1); have hz : s.heap.size + cs = bs + n := hz; omega, hA1⟩, hX⟩, hnm, hnw⟩, ⟨hr1, hr2, by show (cs + 1) + kc ≤ R.cells; omega, by show (sl + N) + ks ≤ R.slots; omega⟩, C.2.2.2.2.2⟩ (cells_push (e := .inr (0, N)) hn ▸ hP1) (cells_push (e := .inr (0, N)) hn ▸ hD1) hS1 hl T1 hT1 X1
theorem aw_newa1 {v : Int32} {N : Nat} (hd : decode μ.2.1 pc = .ok (.newarray .byte, 2)) (hn : lay.length = n) (hw : Cond.arrayClass .byte ∈ TW) (hv : ¬ v < 0) (hN : v.toNatClampNeg = N) (hb : N * componentBytes .byte ≤ 536870912)
    (k : AWl (ps lay (.inr (1, N))) (adb bs) (EK X bs (n + 1) kc ks lq) μ d Q (pc + 2) L (.ref (adb bs n) :: rest) (zm m n)) : AWl lay (adb bs) (EK X bs n (kc + 1) (ks + N) lq) μ d Q pc L (.int v :: rest) m := by
  intro p l e R s mt args below meth c H locs cs sl G cA A ls Qz C hP hD hS hl
  have hts := C.1.2.2.2.2
  obtain ⟨hr1, hr2, hr3, hr4⟩ := C.2.2.2.2.1
  have hr3 : cs + (kc + 1) ≤ R.cells := hr3
  have hr4 : sl + (ks + N) ≤ R.slots := hr4
  obtain ⟨⟨⟨hz, hA1⟩, hX⟩, hnm, hnw⟩ := C.2.2.2.1
  refine va_newa (atype := .byte) (ty := .byte) (a0 := (N, .inl (fun _ => 0))) C.1.1 C.1.2.1 (hts _ hw) rfl C.2.1 hP hD hS C.2.2.1 (fun cA' => rfl) hv hN hb (by omega) (by omega) hd (fun q cA' H1 hK1 hP1 hD1 hS1 => ?_)
  intro T1 hT1 X1
  have hs : H1.size ≤ bs + n + 1 := by have := size_of X1; rw [hT1] at this; have hz : s.heap.size + cs = bs + n := hz; omega
  obtain rfl := fresh_at hn hA1 hP1 hD1 hs
  obtain rfl := cA_eq (t := 1) hK1 rfl
  have hx : (Sum.inl (cA 1, (N, .inl (fun _ => 0))) : va_E) = cellE (adb bs) cA (zm m n) n (.inr (1, N)) := by
    simp [cellE, arrV', zm]
  rw [hx] at hP1 hD1
  exact k p l e R s mt args below meth c H1 locs (cs + 1) (sl + N) G cA A ls Qz ⟨C.1, C.2.1, C.2.2.1, ⟨⟨⟨by show s.heap.size + (cs + 1) = bs + (n + 1); have hz : s.heap.size + cs = bs + n := hz; omega, hA1⟩, hX⟩, hnm, hnw⟩, ⟨hr1, hr2, by show (cs + 1) + kc ≤ R.cells; omega, by show (sl + N) + ks ≤ R.slots; omega⟩, C.2.2.2.2.2⟩ (cells_push (e := .inr (1, N)) hn ▸ hP1) (cells_push (e := .inr (1, N)) hn ▸ hD1) hS1 hl T1 hT1 X1
theorem aw_newa2 {v : Int32} {N : Nat} (hd : decode μ.2.1 pc = .ok (.newarray .char, 2)) (hn : lay.length = n) (hw : Cond.arrayClass .char ∈ TW) (hv : ¬ v < 0) (hN : v.toNatClampNeg = N) (hb : N * componentBytes .char ≤ 536870912)
    (k : AWl (ps lay (.inr (2, N))) (adb bs) (EK X bs (n + 1) kc ks lq) μ d Q (pc + 2) L (.ref (adb bs n) :: rest) (zm m n)) : AWl lay (adb bs) (EK X bs n (kc + 1) (ks + N) lq) μ d Q pc L (.int v :: rest) m := by
  intro p l e R s mt args below meth c H locs cs sl G cA A ls Qz C hP hD hS hl
  have hts := C.1.2.2.2.2
  obtain ⟨hr1, hr2, hr3, hr4⟩ := C.2.2.2.2.1
  have hr3 : cs + (kc + 1) ≤ R.cells := hr3
  have hr4 : sl + (ks + N) ≤ R.slots := hr4
  obtain ⟨⟨⟨hz, hA1⟩, hX⟩, hnm, hnw⟩ := C.2.2.2.1
  refine va_newa (atype := .char) (ty := .char) (a0 := (N, .inl (fun _ => 0))) C.1.1 C.1.2.1 (hts _ hw) rfl C.2.1 hP hD hS C.2.2.1 (fun cA' => rfl) hv hN hb (by omega) (by omega) hd (fun q cA' H1 hK1 hP1 hD1 hS1 => ?_)
  intro T1 hT1 X1
  have hs : H1.size ≤ bs + n + 1 := by have := size_of X1; rw [hT1] at this; have hz : s.heap.size + cs = bs + n := hz; omega
  obtain rfl := fresh_at hn hA1 hP1 hD1 hs
  obtain rfl := cA_eq (t := 2) hK1 rfl
  have hx : (Sum.inl (cA 2, (N, .inl (fun _ => 0))) : va_E) = cellE (adb bs) cA (zm m n) n (.inr (2, N)) := by
    simp [cellE, arrV', zm]
  rw [hx] at hP1 hD1
  exact k p l e R s mt args below meth c H1 locs (cs + 1) (sl + N) G cA A ls Qz ⟨C.1, C.2.1, C.2.2.1, ⟨⟨⟨by show s.heap.size + (cs + 1) = bs + (n + 1); have hz : s.heap.size + cs = bs + n := hz; omega, hA1⟩, hX⟩, hnm, hnw⟩, ⟨hr1, hr2, by show (cs + 1) + kc ≤ R.cells; omega, by show (sl + N) + ks ≤ R.slots; omega⟩, C.2.2.2.2.2⟩ (cells_push (e := .inr (2, N)) hn ▸ hP1) (cells_push (e := .inr (2, N)) hn ▸ hD1) hS1 hl T1 hT1 X1
theorem aw_newa3 {v : Int32} {N : Nat} (hd : decode μ.2.1 pc = .ok (.newarray .boolean, 2)) (hn : lay.length = n) (hw : Cond.arrayClass .boolean ∈ TW) (hv : ¬ v < 0) (hN : v.toNatClampNeg = N) (hb : N * componentBytes .boolean ≤ 536870912)
    (k : AWl (ps lay (.inr (3, N))) (adb bs) (EK X bs (n + 1) kc ks lq) μ d Q (pc + 2) L (.ref (adb bs n) :: rest) (zm m n)) : AWl lay (adb bs) (EK X bs n (kc + 1) (ks + N) lq) μ d Q pc L (.int v :: rest) m := by
  intro p l e R s mt args below meth c H locs cs sl G cA A ls Qz C hP hD hS hl
  have hts := C.1.2.2.2.2
  obtain ⟨hr1, hr2, hr3, hr4⟩ := C.2.2.2.2.1
  have hr3 : cs + (kc + 1) ≤ R.cells := hr3
  have hr4 : sl + (ks + N) ≤ R.slots := hr4
  obtain ⟨⟨⟨hz, hA1⟩, hX⟩, hnm, hnw⟩ := C.2.2.2.1
  refine va_newa (atype := .boolean) (ty := .boolean) (a0 := (N, .inl (fun _ => 0))) C.1.1 C.1.2.1 (hts _ hw) rfl C.2.1 hP hD hS C.2.2.1 (fun cA' => rfl) hv hN hb (by omega) (by omega) hd (fun q cA' H1 hK1 hP1 hD1 hS1 => ?_)
  intro T1 hT1 X1
  have hs : H1.size ≤ bs + n + 1 := by have := size_of X1; rw [hT1] at this; have hz : s.heap.size + cs = bs + n := hz; omega
  obtain rfl := fresh_at hn hA1 hP1 hD1 hs
  obtain rfl := cA_eq (t := 3) hK1 rfl
  have hx : (Sum.inl (cA 3, (N, .inl (fun _ => 0))) : va_E) = cellE (adb bs) cA (zm m n) n (.inr (3, N)) := by
    simp [cellE, arrV', zm]
  rw [hx] at hP1 hD1
  exact k p l e R s mt args below meth c H1 locs (cs + 1) (sl + N) G cA A ls Qz ⟨C.1, C.2.1, C.2.2.1, ⟨⟨⟨by show s.heap.size + (cs + 1) = bs + (n + 1); have hz : s.heap.size + cs = bs + n := hz; omega, hA1⟩, hX⟩, hnm, hnw⟩, ⟨hr1, hr2, by show (cs + 1) + kc ≤ R.cells; omega, by show (sl + N) + ks ≤ R.slots; omega⟩, C.2.2.2.2.2⟩ (cells_push (e := .inr (3, N)) hn ▸ hP1) (cells_push (e := .inr (3, N)) hn ▸ hD1) hS1 hl T1 hT1 X1
theorem aw_newa4 {v : Int32} {N : Nat} (hd : decode μ.2.1 pc = .ok (.newarray .long, 2)) (hn : lay.length = n) (hw : Cond.arrayClass .long ∈ TW) (hv : ¬ v < 0) (hN : v.toNatClampNeg = N) (hb : N * componentBytes .long ≤ 536870912)
    (k : AWl (ps lay (.inr (4, N))) (adb bs) (EK X bs (n + 1) kc ks lq) μ d Q (pc + 2) L (.ref (adb bs n) :: rest) (zm m n)) : AWl lay (adb bs) (EK X bs n (kc + 1) (ks + N) lq) μ d Q pc L (.int v :: rest) m := by
  intro p l e R s mt args below meth c H locs cs sl G cA A ls Qz C hP hD hS hl
  have hts := C.1.2.2.2.2
  obtain ⟨hr1, hr2, hr3, hr4⟩ := C.2.2.2.2.1
  have hr3 : cs + (kc + 1) ≤ R.cells := hr3
  have hr4 : sl + (ks + N) ≤ R.slots := hr4
  obtain ⟨⟨⟨hz, hA1⟩, hX⟩, hnm, hnw⟩ := C.2.2.2.1
  refine va_newa (atype := .long) (ty := .long) (a0 := (N, .inr (.inl (fun _ => 0)))) C.1.1 C.1.2.1 (hts _ hw) rfl C.2.1 hP hD hS C.2.2.1 (fun cA' => rfl) hv hN hb (by omega) (by omega) hd (fun q cA' H1 hK1 hP1 hD1 hS1 => ?_)
  intro T1 hT1 X1
  have hs : H1.size ≤ bs + n + 1 := by have := size_of X1; rw [hT1] at this; have hz : s.heap.size + cs = bs + n := hz; omega
  obtain rfl := fresh_at hn hA1 hP1 hD1 hs
  obtain rfl := cA_eq (t := 4) hK1 rfl
  have hx : (Sum.inl (cA 4, (N, .inr (.inl (fun _ => 0)))) : va_E) = cellE (adb bs) cA (zm m n) n (.inr (4, N)) := by
    simp [cellE, arrV', zm]
  rw [hx] at hP1 hD1
  exact k p l e R s mt args below meth c H1 locs (cs + 1) (sl + N) G cA A ls Qz ⟨C.1, C.2.1, C.2.2.1, ⟨⟨⟨by show s.heap.size + (cs + 1) = bs + (n + 1); have hz : s.heap.size + cs = bs + n := hz; omega, hA1⟩, hX⟩, hnm, hnw⟩, ⟨hr1, hr2, by show (cs + 1) + kc ≤ R.cells; omega, by show (sl + N) + ks ≤ R.slots; omega⟩, C.2.2.2.2.2⟩ (cells_push (e := .inr (4, N)) hn ▸ hP1) (cells_push (e := .inr (4, N)) hn ▸ hD1) hS1 hl T1 hT1 X1
theorem aw_newq5 {idx : Nat} {v : Int32} {N : Nat} (hd : decode μ.2.1 pc = .ok (.anewarray idx, 3)) (hn : lay.length = n) (hw : Cond.classLink μ.2.2.2.1 idx RX0 ∈ TW) (hv : ¬ v < 0) (hN : v.toNatClampNeg = N) (hb : N * 4 ≤ 536870912)
    (k : AWl (ps lay (.inr (5, N))) (adb bs) (EK X bs (n + 1) kc ks lq) μ d Q (pc + 3) L (.ref (adb bs n) :: rest) (zm m n)) : AWl lay (adb bs) (EK X bs n (kc + 1) (ks + N) lq) μ d Q pc L (.int v :: rest) m := by
  intro p l e R s mt args below meth c H locs cs sl G cA A ls Qz C hP hD hS hl
  have hts := C.1.2.2.2.2
  obtain ⟨hr1, hr2, hr3, hr4⟩ := C.2.2.2.2.1
  have hr3 : cs + (kc + 1) ≤ R.cells := hr3
  have hr4 : sl + (ks + N) ≤ R.slots := hr4
  obtain ⟨⟨⟨hz, hA1⟩, hX⟩, hnm, hnw⟩ := C.2.2.2.1
  refine va_newq C.1.1 C.1.2.1 C.1.2.2.2.1 (hts _ hw) hnw.2.1 C.2.1 hP hD hS C.2.2.1 hv hN hb (by omega) (by omega) hd (fun q cA' H1 hK1 hP1 hD1 hS1 => ?_)
  intro T1 hT1 X1
  have hs : H1.size ≤ bs + n + 1 := by have := size_of X1; rw [hT1] at this; have hz : s.heap.size + cs = bs + n := hz; omega
  obtain rfl := fresh_at hn hA1 hP1 hD1 hs
  obtain rfl := cA_eq (t := 5) hK1 rfl
  have hx : (Sum.inl (cA 5, (N, .inr (.inr (.inr (.inr (fun _ => none)))))) : va_E) = cellE (adb bs) cA (zm m n) n (.inr (5, N)) := by
    simp [cellE, arrV', zm]
  rw [hx] at hP1 hD1
  exact k p l e R s mt args below meth c H1 locs (cs + 1) (sl + N) G cA A ls Qz ⟨C.1, C.2.1, C.2.2.1, ⟨⟨⟨by show s.heap.size + (cs + 1) = bs + (n + 1); have hz : s.heap.size + cs = bs + n := hz; omega, hA1⟩, hX⟩, hnm, hnw⟩, ⟨hr1, hr2, by show (cs + 1) + kc ≤ R.cells; omega, by show (sl + N) + ks ≤ R.slots; omega⟩, C.2.2.2.2.2⟩ (cells_push (e := .inr (5, N)) hn ▸ hP1) (cells_push (e := .inr (5, N)) hn ▸ hD1) hS1 hl T1 hT1 X1
theorem aw_aastore5 {ad : Nat → Nat} {E : EB} {a N b : Nat} {i : Int32} {cs' : List Nat} (hd : decode μ.2.1 pc = .ok (.aastore, 1)) (he : lay[a]? = some (.inr (5, N))) (hb : lay[b]? = some (.inl (0, cs'))) (hi : vp_in i N) (k : AWl lay ad E μ d Q (pc + 1) L rest (uR m a i.toNatClampNeg (some b))) : AWl lay ad E μ d Q pc L (.ref (ad b) :: .int i :: .ref (ad a) :: rest) m := fun p l e R s mt args below meth c H locs cs sl G cA A ls Qz C hP hD hS hl => va_astq (r := (RX0, TX0, 5)) C.1.1 C.1.2.1 C.2.1 hP hD hS a 5 b 0 (arR_at he (by decide)) rfl (ob_at hb) rfl hi hd (fun H1 locs1 hP1 hD1 hS1 => k p l e R s mt args below meth c H1 locs1 cs sl G cA A ls Qz C (set_arR he (by decide) ▸ hP1) (cells_D hD) hS1 hl)
theorem aw_newq6 {idx : Nat} {v : Int32} {N : Nat} (hd : decode μ.2.1 pc = .ok (.anewarray idx, 3)) (hn : lay.length = n) (hw : Cond.classLink μ.2.2.2.1 idx RX8 ∈ TW) (hv : ¬ v < 0) (hN : v.toNatClampNeg = N) (hb : N * 4 ≤ 536870912)
    (k : AWl (ps lay (.inr (6, N))) (adb bs) (EK X bs (n + 1) kc ks lq) μ d Q (pc + 3) L (.ref (adb bs n) :: rest) (zm m n)) : AWl lay (adb bs) (EK X bs n (kc + 1) (ks + N) lq) μ d Q pc L (.int v :: rest) m := by
  intro p l e R s mt args below meth c H locs cs sl G cA A ls Qz C hP hD hS hl
  have hts := C.1.2.2.2.2
  obtain ⟨hr1, hr2, hr3, hr4⟩ := C.2.2.2.2.1
  have hr3 : cs + (kc + 1) ≤ R.cells := hr3
  have hr4 : sl + (ks + N) ≤ R.slots := hr4
  obtain ⟨⟨⟨hz, hA1⟩, hX⟩, hnm, hnw⟩ := C.2.2.2.1
  refine va_newq C.1.1 C.1.2.1 C.1.2.2.2.1 (hts _ hw) hnw.2.2 C.2.1 hP hD hS C.2.2.1 hv hN hb (by omega) (by omega) hd (fun q cA' H1 hK1 hP1 hD1 hS1 => ?_)
  intro T1 hT1 X1
  have hs : H1.size ≤ bs + n + 1 := by have := size_of X1; rw [hT1] at this; have hz : s.heap.size + cs = bs + n := hz; omega
  obtain rfl := fresh_at hn hA1 hP1 hD1 hs
  obtain rfl := cA_eq (t := 6) hK1 rfl
  have hx : (Sum.inl (cA 6, (N, .inr (.inr (.inr (.inr (fun _ => none)))))) : va_E) = cellE (adb bs) cA (zm m n) n (.inr (6, N)) := by
    simp [cellE, arrV', zm]
  rw [hx] at hP1 hD1
  exact k p l e R s mt args below meth c H1 locs (cs + 1) (sl + N) G cA A ls Qz ⟨C.1, C.2.1, C.2.2.1, ⟨⟨⟨by show s.heap.size + (cs + 1) = bs + (n + 1); have hz : s.heap.size + cs = bs + n := hz; omega, hA1⟩, hX⟩, hnm, hnw⟩, ⟨hr1, hr2, by show (cs + 1) + kc ≤ R.cells; omega, by show (sl + N) + ks ≤ R.slots; omega⟩, C.2.2.2.2.2⟩ (cells_push (e := .inr (6, N)) hn ▸ hP1) (cells_push (e := .inr (6, N)) hn ▸ hD1) hS1 hl T1 hT1 X1
theorem aw_aastore6 {ad : Nat → Nat} {E : EB} {a N b : Nat} {i : Int32} {cs' : List Nat} (hd : decode μ.2.1 pc = .ok (.aastore, 1)) (he : lay[a]? = some (.inr (6, N))) (hb : lay[b]? = some (.inl (8, cs'))) (hi : vp_in i N) (k : AWl lay ad E μ d Q (pc + 1) L rest (uR m a i.toNatClampNeg (some b))) : AWl lay ad E μ d Q pc L (.ref (ad b) :: .int i :: .ref (ad a) :: rest) m := fun p l e R s mt args below meth c H locs cs sl G cA A ls Qz C hP hD hS hl => va_astq (r := (RX8, TX8, 5)) C.1.1 C.1.2.1 C.2.1 hP hD hS a 6 b 8 (arR_at he (by decide)) rfl (ob_at hb) rfl hi hd (fun H1 locs1 hP1 hD1 hS1 => k p l e R s mt args below meth c H1 locs1 cs sl G cA A ls Qz C (set_arR he (by decide) ▸ hP1) (cells_D hD) hS1 hl)
theorem aw_putFR {ad : Nat → Nat} {E : EB} {C' : String} {T : u_T} {ty0 : Nat → FieldType} {N ci k idx a : Nat} {cs' : List Nat} {x : Nat} (hd : decode μ.2.1 pc = .ok (.putfield idx, 3)) (hf : FldOK μ.2.2.2.1 C' T N ci k idx) (hcl : ClsOK C' T ty0 N) (hi : μ.1.name = "<init>") (ho : C' = μ.2.2.2.1) (hnf : (T k).2.2.2 = true) (he : lay[a]? = some (.inl (ci, cs'))) (hc : cs'[k]? = some 2) (hn : narrow (ty0 k) (.ref (ad x)) = .ref (ad x)) (hfit : fits (ty0 k) (.ref (ad x)) = true) (k' : AWl lay ad E μ d Q (pc + 3) L rest (uR m a k (some x))) : AWl lay ad E μ d Q pc L (.ref (ad x) :: .ref (ad a) :: rest) m := fun p l e R s mt args below meth c H locs cs sl G cA A ls Qz C hP hD hS hl => va_putF (ty := ty0 k) C.1.1 C.1.2.1 C.1.2.2.2.2 hf.1 ty0 hcl.1 hcl.2 C.1.2.2.2.1 C.2.1 hP hD hS a (ob_at he) hf.2.1 k hf.2.2.1 (C.1.2.2.2.2 _ hf.2.2.2.2) (fun x h => by rw [hf.2.2.2.1] at h; exact h) hnf (C.2.2.2.1.2.1 hi) (hf.2.2.2.1.trans ho) (hcl.1 k hf.2.2.1) hn hfit (by rw [fldVs_len]; exact (List.getElem?_eq_some_iff.mp hc).1) hd (fun H1 locs1 hP1 hD1 hS1 => k' p l e R s mt args below meth c H1 locs1 cs sl G cA A ls Qz C ((set_ref he hc) ▸ hP1) (cells_D hD) hS1 hl)
def ObjOK (own : String) (idx : Nat) : Prop := Cond.methodLink own idx Lib.objectInit ∈ TW ∧ Cond.instanceMethod Lib.objectInit ∈ TW ∧ Cond.code Lib.objectInit ⟨#[0xb1]⟩ 1 none ∈ TW
theorem aw_objInit {ad : Nat → Nat} {E : EB} {idx a : Nat} (hd : decode μ.2.1 pc = .ok (.invokespecial idx, 3)) (cw : ObjOK μ.2.2.2.1 idx) (hW : (rest.map fun v => v.category).sum ≤ 8) (k : AWl lay ad E μ (d + 1) Q (pc + 3) L rest m) : AWl lay ad E μ (d + 1) Q pc L (.ref a :: rest) m := by
  intro p l e R s mt args below meth c H locs cs sl G cA A ls Qz C hP hD hS hl
  have hts := C.1.2.2.2.2
  obtain ⟨hr1, hr2, hr3, hr4⟩ := C.2.2.2.2.1
  refine W.objInit C.1.1 C.1.2.1 C.1.2.2.2.1 (hts _ cw.1) (hts _ cw.2.1) (hts _ cw.2.2) rfl (hl.1.trans C.1.2.2.1.symm) rfl hd (by omega) (by have := lv_room (pc := pc) (ls := ls) (rest := .ref a :: rest) (m := mt) hW; omega) ?_
  exact W.eq (g2 := F0 mt (pc + 3) ls rest) rfl (k p l e R s mt args below meth c H locs cs sl G cA A ls Qz C hP hD hS hl)
theorem aw_callI {idx b : Nat} {μ' : MI} (As : List Value) (hd : decode μ.2.1 pc = .ok (.invokespecial idx, 3)) (hn : lay.length = n) (h0 : 0 < n) (hn1 : lay1.length = n + kc') (cw : CallI μ.2.2.2.1 idx μ' As.length) (hst : st = As.reverse ++ .ref b :: rest) (hM : CtK bs lay lay1 μ' d kc' ks' (.ref b :: As) m m1) (hW : (rest.map fun v => v.category).sum ≤ 8)
    (k : AWl lay1 (adb bs) (EK X bs (n + kc') kc ks lq) μ (d + 1) Q (pc + 3) L rest m1) : AWl lay (adb bs) (EK X bs n (kc + kc') (ks + ks') lq) μ (d + 1) Q pc L st m := by
  subst hst
  subst hn
  intro p l e R s mt args below meth c H locs cs sl G cA A ls Qz C hP hD hS hl
  obtain ⟨w1, w2, w4, w5, w6, w7, w8, w9⟩ := cw
  have hts := C.1.2.2.2.2
  obtain ⟨hr1, hr2, hr3, hr4⟩ := C.2.2.2.2.1
  have hr3 : cs + (kc + kc') ≤ R.cells := hr3
  have hr4 : sl + (ks + ks') ≤ R.slots := hr4
  obtain ⟨⟨⟨hz, hA1⟩, hX⟩, hnm, hnw⟩ := C.2.2.2.1
  have hz : s.heap.size + cs = bs + lay.length := hz
  intro T hT XX
  have hs : H.size = bs + lay.length := by
    have h1 := size_of XX
    rw [hT] at h1
    have h2 := size_at rfl h0 hP
    omega
  have hM := hM l G cA
  rw [w9] at hM
  refine (aw_runK (va_runI (As := As) (rest := rest) (n := As.length) C.1 hM ⟨callB_of As.length hts (good_tbl w5) rfl rfl rfl (hts _ w4) (hts _ w1) w6 ⟨hr1, by show 8 + (μ'.2.2.1 + 11) + 41 * d ≤ R.locals; omega⟩, w8, hts _ w2⟩ ⟨PCt.blind, fun U hU hW' => ⟨rfl, by rw [hU]; exact hs, by rw [hU]; exact hP, va_K.moved hW'.alike C.2.1, hD.weaken (fun _ _ _ _ => trivial), NWs.warm hW' hnw⟩⟩ rfl rfl hl.1 rfl (lv_room hW) hd ⟨by omega, by omega⟩) hs hD hS C.2.2.1 (fun H1 locs1 hP1 hD1 hS1 => k p l e R s mt args below meth c H1 locs1 (cs + kc') (sl + ks') G cA A ls Qz ⟨C.1, C.2.1, C.2.2.1, ⟨⟨⟨by show s.heap.size + (cs + kc') = bs + (lay.length + kc'); omega, hA1⟩, hX⟩, hnm, hnw⟩, ⟨hr1, hr2, by show (cs + kc') + kc ≤ R.cells; omega, by show (sl + ks') + ks ≤ R.slots; omega⟩, C.2.2.2.2.2⟩ hP1 hD1 hS1 hl)) T hT XX
theorem aw_callIN {idx b : Nat} {host : String} {μ' : MI} (As : List Value) (hd : decode μ.2.1 pc = .ok (.invokespecial idx, 3)) (hn : lay.length = n) (h0 : 0 < n) (hn1 : lay1.length = n + kc') (cw : CallIN μ.2.2.2.1 idx host μ' As.length) (hst : st = As.reverse ++ .ref b :: rest) (hM : CtK bs lay lay1 μ' d kc' ks' (.ref b :: As) m m1) (hW : (rest.map fun v => v.category).sum ≤ 8)
    (k : AWl lay1 (adb bs) (EK X bs (n + kc') kc ks lq) μ (d + 1) Q (pc + 3) L rest m1) : AWl lay (adb bs) (EK X bs n (kc + kc') (ks + ks') lq) μ (d + 1) Q pc L st m := by
  subst hst
  subst hn
  intro p l e R s mt args below meth c H locs cs sl G cA A ls Qz C hP hD hS hl
  obtain ⟨w1, w2, w4, w5, w6, w7, w8, w9⟩ := cw
  have hts := C.1.2.2.2.2
  obtain ⟨hr1, hr2, hr3, hr4⟩ := C.2.2.2.2.1
  have hr3 : cs + (kc + kc') ≤ R.cells := hr3
  have hr4 : sl + (ks + ks') ≤ R.slots := hr4
  obtain ⟨⟨⟨hz, hA1⟩, hX⟩, hnm, hnw⟩ := C.2.2.2.1
  have hz : s.heap.size + cs = bs + lay.length := hz
  intro T hT XX
  have hs : H.size = bs + lay.length := by
    have h1 := size_of XX
    rw [hT] at h1
    have h2 := size_at rfl h0 hP
    omega
  have hM := hM l G cA
  rw [w9] at hM
  refine (aw_runK (va_runIN (As := As) (rest := rest) (n := As.length) (host := host) C.1 hM ⟨⟨⟨rfl, rfl, hr1, by show 8 + (μ'.2.2.1 + 11) + 41 * d ≤ R.locals; omega, pay_in hts (good_tbl w5), List.mem_cons_self⟩, hts _ w5, hts _ w4, ⟨w6.1, w6.2.1⟩, fun sig h => by have h2 := w6.2.2; rw [h] at h2; exact (Option.some.inj h2).symm, va_Nw.use rfl (hnw.1 _ w1)⟩, w8, hts _ w2⟩ ⟨PCt.blind, fun U hU hW' => ⟨rfl, by rw [hU]; exact hs, by rw [hU]; exact hP, va_K.moved hW'.alike C.2.1, hD.weaken (fun _ _ _ _ => trivial), NWs.warm hW' hnw⟩⟩ rfl rfl hl.1 rfl (lv_room hW) hd ⟨by omega, by omega⟩) hs hD hS C.2.2.1 (fun H1 locs1 hP1 hD1 hS1 => k p l e R s mt args below meth c H1 locs1 (cs + kc') (sl + ks') G cA A ls Qz ⟨C.1, C.2.1, C.2.2.1, ⟨⟨⟨by show s.heap.size + (cs + kc') = bs + (lay.length + kc'); omega, hA1⟩, hX⟩, hnm, hnw⟩, ⟨hr1, hr2, by show (cs + kc') + kc ≤ R.cells; omega, by show (sl + ks') + ks ≤ R.slots; omega⟩, C.2.2.2.2.2⟩ hP1 hD1 hS1 hl)) T hT XX
end AWK
theorem w_119 : Cond.methodLink RL 19 yX11_init ∈ TW := tc1 (mq_mem (n := 23) rfl) (by decide +kernel)
theorem w_120 : Cond.instanceMethod yX11_init ∈ TW := tc1 (mq_mem (n := 24) rfl) (by decide +kernel)
theorem w_121 : Cond.code yX11_init cX11_init 3 none ∈ TW := tc1 (mq_mem (n := 25) rfl) (by decide +kernel)
theorem w_122 : Cond.methodLink RX11 3 Lib.objectInit ∈ TW := tc1 (mq_mem (n := 26) rfl) (by decide +kernel)
theorem w_123 : Cond.instanceMethod Lib.objectInit ∈ TW := tc1 (mq_mem (n := 27) rfl) (by decide +kernel)
theorem w_124 : Cond.code Lib.objectInit ⟨#[0xb1]⟩ 1 none ∈ TW := tc1 (mq_mem (n := 28) rfl) (by decide +kernel)
theorem w_128 : Cond.instanceMethod yX10_init ∈ TW := tc1 (mq_mem (n := 32) rfl) (by decide +kernel)
theorem w_129 : Cond.code yX10_init cX10_init 1 none ∈ TW := tc1 (mq_mem (n := 33) rfl) (by decide +kernel)
theorem w_130 : Cond.methodLink RX10 1 Lib.objectInit ∈ TW := tc1 (mq_mem (n := 34) rfl) (by decide +kernel)
theorem w_149 : Cond.instanceMethod yX1_init ∈ TW := tc1 (mq_mem (n := 53) rfl) (by decide +kernel)
theorem w_150 : Cond.code yX1_init cX1_init 1 none ∈ TW := tc1 (mq_mem (n := 54) rfl) (by decide +kernel)
theorem w_151 : Cond.methodLink RX1 3 Lib.objectInit ∈ TW := tc1 (mq_mem (n := 55) rfl) (by decide +kernel)
theorem w_155 : Cond.instanceMethod yX5_init ∈ TW := tc1 (mq_mem (n := 59) rfl) (by decide +kernel)
theorem w_156 : Cond.code yX5_init cX5_init 1 none ∈ TW := tc1 (mq_mem (n := 60) rfl) (by decide +kernel)
theorem w_157 : Cond.methodLink RX5 3 Lib.objectInit ∈ TW := tc1 (mq_mem (n := 61) rfl) (by decide +kernel)
theorem w_231 : Cond.instanceMethod yX4_init ∈ TW := tc1 (mq_mem (n := 135) rfl) (by decide +kernel)
theorem w_232 : Cond.code yX4_init cX4_init 1 none ∈ TW := tc1 (mq_mem (n := 136) rfl) (by decide +kernel)
theorem w_233 : Cond.methodLink RX4 3 Lib.objectInit ∈ TW := tc1 (mq_mem (n := 137) rfl) (by decide +kernel)
theorem w_237 : Cond.instanceMethod yX8_init ∈ TW := tc1 (mq_mem (n := 141) rfl) (by decide +kernel)
theorem w_238 : Cond.code yX8_init cX8_init 1 none ∈ TW := tc1 (mq_mem (n := 142) rfl) (by decide +kernel)
theorem w_239 : Cond.methodLink RX8 3 Lib.objectInit ∈ TW := tc1 (mq_mem (n := 143) rfl) (by decide +kernel)
theorem w_296 : Cond.methodLink RX11 42 yX2_init ∈ TW := tc1 (mq_mem (n := 200) rfl) (by decide +kernel)
theorem w_297 : Cond.instanceMethod yX2_init ∈ TW := tc1 (mq_mem (n := 201) rfl) (by decide +kernel)
theorem w_298 : Cond.code yX2_init cX2_init 2 none ∈ TW := tc1 (mq_mem (n := 202) rfl) (by decide +kernel)
theorem w_299 : Cond.methodLink RX2 1 Lib.objectInit ∈ TW := tc1 (mq_mem (n := 203) rfl) (by decide +kernel)
theorem w_319 : Cond.instanceMethod yX3_init ∈ TW := tc1 (mq_mem (n := 223) rfl) (by decide +kernel)
theorem w_320 : Cond.code yX3_init cX3_init 1 none ∈ TW := tc1 (mq_mem (n := 224) rfl) (by decide +kernel)
theorem w_321 : Cond.methodLink RX3 5 Lib.objectInit ∈ TW := tc1 (mq_mem (n := 225) rfl) (by decide +kernel)
theorem w_362 : Cond.instanceMethod yX9_init ∈ TW := tc2 (mq_mem (n := 26) rfl) (by decide +kernel)
theorem w_363 : Cond.code yX9_init cX9_init 1 none ∈ TW := tc2 (mq_mem (n := 27) rfl) (by decide +kernel)
theorem w_364 : Cond.methodLink RX9 3 Lib.objectInit ∈ TW := tc2 (mq_mem (n := 28) rfl) (by decide +kernel)
theorem w_394 : Cond.methodLink RX11 95 yX6_init ∈ TW := tc2 (mq_mem (n := 58) rfl) (by decide +kernel)
theorem w_395 : Cond.instanceMethod yX6_init ∈ TW := tc2 (mq_mem (n := 59) rfl) (by decide +kernel)
theorem w_396 : Cond.code yX6_init cX6_init 2 none ∈ TW := tc2 (mq_mem (n := 60) rfl) (by decide +kernel)
theorem w_397 : Cond.methodLink RX6 3 Lib.objectInit ∈ TW := tc2 (mq_mem (n := 61) rfl) (by decide +kernel)
theorem w_427 : Cond.methodLink RX11 104 yX7_init ∈ TW := tc2 (mq_mem (n := 91) rfl) (by decide +kernel)
theorem w_428 : Cond.instanceMethod yX7_init ∈ TW := tc2 (mq_mem (n := 92) rfl) (by decide +kernel)
theorem w_429 : Cond.code yX7_init cX7_init 2 none ∈ TW := tc2 (mq_mem (n := 93) rfl) (by decide +kernel)
theorem w_430 : Cond.methodLink RX7 3 Lib.objectInit ∈ TW := tc2 (mq_mem (n := 94) rfl) (by decide +kernel)
theorem w_460 : Cond.instanceMethod yX0_init ∈ TW := tc2 (mq_mem (n := 124) rfl) (by decide +kernel)
theorem w_461 : Cond.code yX0_init cX0_init 1 none ∈ TW := tc2 (mq_mem (n := 125) rfl) (by decide +kernel)
theorem w_462 : Cond.methodLink RX0 3 Lib.objectInit ∈ TW := tc2 (mq_mem (n := 126) rfl) (by decide +kernel)
theorem w_1257 : Cond.methodLink RL 22 yX12_init ∈ TW := tc5 (mq_mem (n := 201) rfl) (by decide +kernel)
theorem w_1258 : Cond.instanceMethod yX12_init ∈ TW := tc5 (mq_mem (n := 202) rfl) (by decide +kernel)
theorem w_1259 : Cond.code yX12_init cX12_init 1 none ∈ TW := tc5 (mq_mem (n := 203) rfl) (by decide +kernel)
theorem w_1260 : Cond.methodLink RX12 3 Lib.objectInit ∈ TW := tc5 (mq_mem (n := 204) rfl) (by decide +kernel)
theorem nw_L_8 : NewOK RL 8 RX11 TX11 tyX11 19 11 [2, 2, 2, 2, 2, 2, 2, 2, 2, 2, 2, 0, 2, 2, 2, 0, 2, 2, 0] := ⟨tX11, tyX11_ok, w_117, w_118, w_97, rfl, rfl, by decide, by decide +kernel⟩
theorem ki_L_19 : CallI RL 19 μX11_init 0 := ⟨w_119, w_120, w_97, w_121, ⟨qcl_0.1, qcl_0.2, qde_10⟩, Nat.le_of_ble_eq_true rfl, rfl, rfl⟩
theorem ob_X11_3 : ObjOK RX11 3 := ⟨w_122, w_123, w_124⟩
theorem nw_X11_9 : NewOK RX11 9 RX10 TX10 tyX10 2 10 [2, 0] := ⟨tX10, tyX10_ok, w_125, w_126, w_98, rfl, rfl, by decide, by decide +kernel⟩
theorem ki_X11_11 : CallIN RX11 11 RX11 μX10_init 0 := ⟨mq_mem (n := 0) rfl, w_128, w_98, w_129, ⟨qcl_1.1, qcl_1.2, qde_10⟩, Nat.le_of_ble_eq_true rfl, rfl, rfl⟩
theorem ob_X10_1 : ObjOK RX10 1 := ⟨w_130, w_123, w_124⟩
theorem nw_X11_16 : NewOK RX11 16 RX1 TX1 tyX1 8 1 [2, 2, 2, 0, 0, 0, 0, 0] := ⟨tX1, tyX1_ok, w_146, w_147, w_99, rfl, rfl, by decide, by decide +kernel⟩
theorem ki_X11_18 : CallIN RX11 18 RX11 μX1_init 0 := ⟨mq_mem (n := 1) rfl, w_149, w_99, w_150, ⟨qcl_6.1, qcl_6.2, qde_10⟩, Nat.le_of_ble_eq_true rfl, rfl, rfl⟩
theorem ob_X1_3 : ObjOK RX1 3 := ⟨w_151, w_123, w_124⟩
theorem nw_X1_15 : NewOK RX1 15 RX5 TX5 tyX5 9 5 [2, 2, 2, 2, 0, 0, 0, 0, 0] := ⟨tX5, tyX5_ok, w_152, w_153, w_100, rfl, rfl, by decide, by decide +kernel⟩
theorem ki_X1_17 : CallIN RX1 17 RX11 μX5_init 0 := ⟨mq_mem (n := 2) rfl, w_155, w_100, w_156, ⟨qcl_5.1, qcl_5.2, qde_10⟩, Nat.le_of_ble_eq_true rfl, rfl, rfl⟩
theorem ob_X5_3 : ObjOK RX5 3 := ⟨w_157, w_123, w_124⟩
theorem nw_X11_23 : NewOK RX11 23 RX4 TX4 tyX4 8 4 [2, 0, 0, 0, 0, 0, 0, 0] := ⟨tX4, tyX4_ok, w_228, w_229, w_101, rfl, rfl, by decide, by decide +kernel⟩
theorem ki_X11_25 : CallIN RX11 25 RX11 μX4_init 0 := ⟨mq_mem (n := 3) rfl, w_231, w_101, w_232, ⟨qcl_2.1, qcl_2.2, qde_10⟩, Nat.le_of_ble_eq_true rfl, rfl, rfl⟩
theorem ob_X4_3 : ObjOK RX4 3 := ⟨w_233, w_123, w_124⟩
theorem nw_X4_9 : NewOK RX4 9 RX8 TX8 tyX8 5 8 [2, 2, 2, 2, 0] := ⟨tX8, tyX8_ok, w_234, w_235, w_102, rfl, rfl, by decide, by decide +kernel⟩
theorem ki_X4_11 : CallIN RX4 11 RX11 μX8_init 0 := ⟨mq_mem (n := 4) rfl, w_237, w_102, w_238, ⟨qcl_3.1, qcl_3.2, qde_10⟩, Nat.le_of_ble_eq_true rfl, rfl, rfl⟩
theorem ob_X8_3 : ObjOK RX8 3 := ⟨w_239, w_123, w_124⟩
theorem nw_X11_30 : NewOK RX11 30 RX8 TX8 tyX8 5 8 [2, 2, 2, 2, 0] := ⟨tX8, tyX8_ok, w_292, w_235, w_102, rfl, rfl, by decide, by decide +kernel⟩
theorem ki_X11_32 : CallIN RX11 32 RX11 μX8_init 0 := ⟨mq_mem (n := 5) rfl, w_237, w_102, w_238, ⟨qcl_3.1, qcl_3.2, qde_10⟩, Nat.le_of_ble_eq_true rfl, rfl, rfl⟩
theorem nw_X11_40 : NewOK RX11 40 RX2 TX2 tyX2 3 2 [2, 0, 0] := ⟨tX2, tyX2_ok, w_294, w_295, w_103, rfl, rfl, by decide, by decide +kernel⟩
theorem ki_X11_42 : CallI RX11 42 μX2_init 0 := ⟨w_296, w_297, w_103, w_298, ⟨qcl_7.1, qcl_7.2, qde_10⟩, Nat.le_of_ble_eq_true rfl, rfl, rfl⟩
theorem ob_X2_1 : ObjOK RX2 1 := ⟨w_299, w_123, w_124⟩
theorem nw_X2_9 : NewOK RX2 9 RX8 TX8 tyX8 5 8 [2, 2, 2, 2, 0] := ⟨tX8, tyX8_ok, w_300, w_235, w_102, rfl, rfl, by decide, by decide +kernel⟩
theorem ki_X2_22 : CallIN RX2 22 RX11 μX8_init 0 := ⟨mq_mem (n := 6) rfl, w_237, w_102, w_238, ⟨qcl_3.1, qcl_3.2, qde_10⟩, Nat.le_of_ble_eq_true rfl, rfl, rfl⟩
theorem nw_X11_47 : NewOK RX11 47 RX0 TX0 tyX0 5 0 [2, 2, 0, 0, 0] := ⟨tX0, tyX0_ok, w_314, w_458, w_108, rfl, rfl, by decide, by decide +kernel⟩
theorem nw_X11_53 : NewOK RX11 53 RX3 TX3 tyX3 9 3 [2, 2, 2, 2, 2, 0, 0, 0, 0] := ⟨tX3, tyX3_ok, w_316, w_317, w_104, rfl, rfl, by decide, by decide +kernel⟩
theorem ki_X11_55 : CallIN RX11 55 RX11 μX3_init 0 := ⟨mq_mem (n := 7) rfl, w_319, w_104, w_320, ⟨qcl_4.1, qcl_4.2, qde_10⟩, Nat.le_of_ble_eq_true rfl, rfl, rfl⟩
theorem ob_X3_5 : ObjOK RX3 5 := ⟨w_321, w_123, w_124⟩
theorem nw_X11_90 : NewOK RX11 90 RX9 TX9 tyX9 6 9 [2, 2, 2, 2, 0, 0] := ⟨tX9, tyX9_ok, w_359, w_360, w_105, rfl, rfl, by decide, by decide +kernel⟩
theorem ki_X11_92 : CallIN RX11 92 RX11 μX9_init 0 := ⟨mq_mem (n := 8) rfl, w_362, w_105, w_363, ⟨qcl_9.1, qcl_9.2, qde_10⟩, Nat.le_of_ble_eq_true rfl, rfl, rfl⟩
theorem ob_X9_3 : ObjOK RX9 3 := ⟨w_364, w_123, w_124⟩
theorem nw_X11_93 : NewOK RX11 93 RX6 TX6 tyX6 7 6 [2, 2, 2, 2, 2, 2, 0] := ⟨tX6, tyX6_ok, w_392, w_393, w_106, rfl, rfl, by decide, by decide +kernel⟩
theorem ki_X11_95 : CallI RX11 95 μX6_init 1 := ⟨w_394, w_395, w_106, w_396, ⟨qcl_10.1, qcl_10.2, qde_65⟩, Nat.le_of_ble_eq_true rfl, rfl, rfl⟩
theorem ob_X6_3 : ObjOK RX6 3 := ⟨w_397, w_123, w_124⟩
theorem nw_X6_9 : NewOK RX6 9 RX8 TX8 tyX8 5 8 [2, 2, 2, 2, 0] := ⟨tX8, tyX8_ok, w_398, w_235, w_102, rfl, rfl, by decide, by decide +kernel⟩
theorem ki_X6_11 : CallIN RX6 11 RX11 μX8_init 0 := ⟨mq_mem (n := 9) rfl, w_237, w_102, w_238, ⟨qcl_3.1, qcl_3.2, qde_10⟩, Nat.le_of_ble_eq_true rfl, rfl, rfl⟩
theorem nw_X11_102 : NewOK RX11 102 RX7 TX7 tyX7 6 7 [2, 2, 2, 0, 0, 1] := ⟨tX7, tyX7_ok, w_425, w_426, w_107, rfl, rfl, by decide, by decide +kernel⟩
theorem ki_X11_104 : CallI RX11 104 μX7_init 1 := ⟨w_427, w_428, w_107, w_429, ⟨qcl_8.1, qcl_8.2, qde_65⟩, Nat.le_of_ble_eq_true rfl, rfl, rfl⟩
theorem ob_X7_3 : ObjOK RX7 3 := ⟨w_430, w_123, w_124⟩
theorem nw_X7_9 : NewOK RX7 9 RX8 TX8 tyX8 5 8 [2, 2, 2, 2, 0] := ⟨tX8, tyX8_ok, w_431, w_235, w_102, rfl, rfl, by decide, by decide +kernel⟩
theorem ki_X7_11 : CallIN RX7 11 RX11 μX8_init 0 := ⟨mq_mem (n := 10) rfl, w_237, w_102, w_238, ⟨qcl_3.1, qcl_3.2, qde_10⟩, Nat.le_of_ble_eq_true rfl, rfl, rfl⟩
theorem ki_X11_109 : CallIN RX11 109 RX11 μX0_init 0 := ⟨mq_mem (n := 11) rfl, w_460, w_108, w_461, ⟨qcl_12.1, qcl_12.2, qde_10⟩, Nat.le_of_ble_eq_true rfl, rfl, rfl⟩
theorem ob_X0_3 : ObjOK RX0 3 := ⟨w_462, w_123, w_124⟩
theorem nw_X0_9 : NewOK RX0 9 RX8 TX8 tyX8 5 8 [2, 2, 2, 2, 0] := ⟨tX8, tyX8_ok, w_463, w_235, w_102, rfl, rfl, by decide, by decide +kernel⟩
theorem ki_X0_11 : CallIN RX0 11 RX11 μX8_init 0 := ⟨mq_mem (n := 12) rfl, w_237, w_102, w_238, ⟨qcl_3.1, qcl_3.2, qde_10⟩, Nat.le_of_ble_eq_true rfl, rfl, rfl⟩
theorem nw_L_20 : NewOK RL 20 RX12 TX12 tyX12 57 12 [0, 0, 2, 2, 2, 2, 2, 2, 0, 2, 0, 0, 0, 2, 0, 2, 0, 0, 2, 0, 0, 0, 0, 2, 2, 2, 2, 0, 0, 2, 0, 2, 0, 0, 0, 0, 2, 2, 2, 2, 2, 2, 2, 0, 2, 0, 0, 2, 0, 0, 2, 2, 0, 0, 2, 2, 2] := ⟨tX12, tyX12_ok, w_1255, w_1256, w_109, rfl, rfl, by decide, by decide +kernel⟩
theorem ki_L_22 : CallI RL 22 μX12_init 0 := ⟨w_1257, w_1258, w_109, w_1259, ⟨qcl_13.1, qcl_13.2, qde_10⟩, Nat.le_of_ble_eq_true rfl, rfl, rfl⟩
theorem ob_X12_3 : ObjOK RX12 3 := ⟨w_1260, w_123, w_124⟩
theorem ar_0 : Cond.arrayClass .int ∈ TW := tc1 (mq_mem (n := 90) rfl) (by decide +kernel)
theorem ar_1 : Cond.arrayClass .byte ∈ TW := tc6 (mq_mem (n := 137) rfl) (by decide +kernel)
theorem ar_2 : Cond.arrayClass .char ∈ TW := tc1 (mq_mem (n := 49) rfl) (by decide +kernel)
theorem ar_3 : Cond.arrayClass .boolean ∈ TW := tc1 (mq_mem (n := 91) rfl) (by decide +kernel)
theorem ar_4 : Cond.arrayClass .long ∈ TW := tc2 (mq_mem (n := 55) rfl) (by decide +kernel)
def K_X10 (m : Wm) (b n : Nat) : Wm := uI (uR (zm m n) b 0 (some n)) b 1 (0)
def N_X10 (lay : List Ent) : List Ent := (ps lay (.inr (2, 80)))
set_option maxRecDepth 100000 in
set_option maxHeartbeats 40000000 in
theorem n_X10 {bs d : Nat} {lay : List Ent} {m : Wm} {b n : Nat} (hn : lay.length = n) (hb : lay[b]? = some (.inl (10, [2, 0]))) : CtK bs lay ((ps lay (.inr (2, 80)))) μX10_init (d + 1) 1 80 [.ref (adb bs b)] m (K_X10 m b n) := by
  refine CtK.of (n := n) (by decide +kernel) rfl rfl hn (Nat.le_of_ble_eq_true rfl) ?_
  refine aw_eq (L' := [(0, .ref (adb bs b))]) ?_ rfl rfl rfl
  refine aw_aload_n (j := 0) dX10_init_0 rfl rfl ?_
  refine aw_objInit dX10_init_1 ob_X10_1 (Nat.le_of_ble_eq_true rfl) ?_
  refine aw_aload_n (j := 0) dX10_init_4 rfl rfl ?_
  refine aw_bipush (v := 80) dX10_init_5 (by decide) ?_
  refine aw_newa2 (n := n) (kc := 0) (ks := 0) (N := 80) dX10_init_7 hn ar_2 (by decide) (by decide +kernel) (by decide +kernel) ?_
  refine aw_putFR (x := n) dX10_init_9 f_X10_9 cl_X10 rfl rfl rfl (at_old hb) rfl rfl rfl ?_
  refine aw_aload_n (j := 0) dX10_init_12 rfl rfl ?_
  refine aw_iconst (v := 0) dX10_init_13 (by decide) ?_
  refine aw_putI dX10_init_14 f_X10_13 cl_X10 rfl (at_old hb) rfl (by decide) (by decide) ?_
  exact aw_ret (v := none) rfl (Or.inl ⟨rfl, rfl, dX10_init_17⟩) ⟨rfl, rfl⟩
def K_X5 (m : Wm) (b n : Nat) : Wm := uI (uI (uI (uI (uI (uR (zm (uR (zm (uR (zm (uR (zm m n) b 0 (some n)) (n + 1)) b 1 (some (n + 1))) (n + 2)) b 2 (some (n + 2))) (n + 3)) b 3 (some (n + 3))) b 4 (0)) b 5 (0)) b 6 (0)) b 7 (0)) b 8 (1)
def N_X5 (lay : List Ent) : List Ent := (ps (ps (ps (ps lay (.inr (0, 40))) (.inr (0, 40))) (.inr (0, 40))) (.inr (3, 5)))
set_option maxRecDepth 100000 in
set_option maxHeartbeats 40000000 in
theorem n_X5 {bs d : Nat} {lay : List Ent} {m : Wm} {b n : Nat} (hn : lay.length = n) (hb : lay[b]? = some (.inl (5, [2, 2, 2, 2, 0, 0, 0, 0, 0]))) : CtK bs lay ((ps (ps (ps (ps lay (.inr (0, 40))) (.inr (0, 40))) (.inr (0, 40))) (.inr (3, 5)))) μX5_init (d + 1) 4 125 [.ref (adb bs b)] m (K_X5 m b n) := by
  refine CtK.of (n := n) (by decide +kernel) rfl rfl hn (Nat.le_of_ble_eq_true rfl) ?_
  refine aw_eq (L' := [(0, .ref (adb bs b))]) ?_ rfl rfl rfl
  refine aw_aload_n (j := 0) dX5_init_0 rfl rfl ?_
  refine aw_objInit dX5_init_1 ob_X5_3 (Nat.le_of_ble_eq_true rfl) ?_
  refine aw_aload_n (j := 0) dX5_init_4 rfl rfl ?_
  refine aw_bipush (v := 40) dX5_init_5 (by decide) ?_
  refine aw_newa0 (n := n) (kc := 3) (ks := 85) (N := 40) dX5_init_7 hn ar_0 (by decide) (by decide +kernel) (by decide +kernel) ?_
  refine aw_putFR (x := n) dX5_init_9 f_X5_11 cl_X5 rfl rfl rfl (at_old hb) rfl rfl rfl ?_
  refine aw_aload_n (j := 0) dX5_init_12 rfl rfl ?_
  refine aw_bipush (v := 40) dX5_init_13 (by decide) ?_
  refine aw_newa0 (n := n + 1) (kc := 2) (ks := 45) (N := 40) dX5_init_15 (len_push hn) ar_0 (by decide) (by decide +kernel) (by decide +kernel) ?_
  refine aw_putFR (x := n + 1) dX5_init_17 f_X5_15 cl_X5 rfl rfl rfl (at_old (at_old hb)) rfl rfl rfl ?_
  refine aw_aload_n (j := 0) dX5_init_20 rfl rfl ?_
  refine aw_bipush (v := 40) dX5_init_21 (by decide) ?_
  refine aw_newa0 (n := n + 2) (kc := 1) (ks := 5) (N := 40) dX5_init_23 (len_push (len_push hn)) ar_0 (by decide) (by decide +kernel) (by decide +kernel) ?_
  refine aw_putFR (x := n + 2) dX5_init_25 f_X5_18 cl_X5 rfl rfl rfl (at_old (at_old (at_old hb))) rfl rfl rfl ?_
  refine aw_aload_n (j := 0) dX5_init_28 rfl rfl ?_
  refine aw_iconst (v := 5) dX5_init_29 (by decide) ?_
  refine aw_newa3 (n := n + 3) (kc := 0) (ks := 0) (N := 5) dX5_init_30 (len_push (len_push (len_push hn))) ar_3 (by decide) (by decide +kernel) (by decide +kernel) ?_
  refine aw_putFR (x := n + 3) dX5_init_32 f_X5_21 cl_X5 rfl rfl rfl (at_old (at_old (at_old (at_old hb)))) rfl rfl rfl ?_
  refine aw_aload_n (j := 0) dX5_init_35 rfl rfl ?_
  refine aw_iconst (v := 0) dX5_init_36 (by decide) ?_
  refine aw_putI dX5_init_37 f_X5_25 cl_X5 rfl (at_old (at_old (at_old (at_old hb)))) rfl (by decide) (by decide) ?_
  refine aw_aload_n (j := 0) dX5_init_40 rfl rfl ?_
  refine aw_iconst (v := 0) dX5_init_41 (by decide) ?_
  refine aw_putI dX5_init_42 f_X5_29 cl_X5 rfl (at_old (at_old (at_old (at_old hb)))) rfl (by decide) (by decide) ?_
  refine aw_aload_n (j := 0) dX5_init_45 rfl rfl ?_
  refine aw_iconst (v := 0) dX5_init_46 (by decide) ?_
  refine aw_putI dX5_init_47 f_X5_32 cl_X5 rfl (at_old (at_old (at_old (at_old hb)))) rfl (by decide) (by decide) ?_
  refine aw_aload_n (j := 0) dX5_init_50 rfl rfl ?_
  refine aw_iconst (v := 0) dX5_init_51 (by decide) ?_
  refine aw_putI dX5_init_52 f_X5_35 cl_X5 rfl (at_old (at_old (at_old (at_old hb)))) rfl (by decide) (by decide) ?_
  refine aw_aload_n (j := 0) dX5_init_55 rfl rfl ?_
  refine aw_iconst (v := 1) dX5_init_56 (by decide) ?_
  refine aw_putI dX5_init_57 f_X5_38 cl_X5 rfl (at_old (at_old (at_old (at_old hb)))) rfl (by decide) (by decide) ?_
  exact aw_ret (v := none) rfl (Or.inl ⟨rfl, rfl, dX5_init_60⟩) ⟨rfl, rfl⟩
def K_X8 (m : Wm) (b n : Nat) : Wm := uI (uR (zm (uR (zm (uR (zm (uR (zm m n) b 0 (some n)) (n + 1)) b 1 (some (n + 1))) (n + 2)) b 2 (some (n + 2))) (n + 3)) b 3 (some (n + 3))) b 4 (1)
def N_X8 (lay : List Ent) : List Ent := (ps (ps (ps (ps lay (.inr (0, 32))) (.inr (0, 8))) (.inr (0, 8))) (.inr (0, 8)))
set_option maxRecDepth 100000 in
set_option maxHeartbeats 40000000 in
theorem n_X8 {bs d : Nat} {lay : List Ent} {m : Wm} {b n : Nat} (hn : lay.length = n) (hb : lay[b]? = some (.inl (8, [2, 2, 2, 2, 0]))) : CtK bs lay ((ps (ps (ps (ps lay (.inr (0, 32))) (.inr (0, 8))) (.inr (0, 8))) (.inr (0, 8)))) μX8_init (d + 1) 4 56 [.ref (adb bs b)] m (K_X8 m b n) := by
  refine CtK.of (n := n) (by decide +kernel) rfl rfl hn (Nat.le_of_ble_eq_true rfl) ?_
  refine aw_eq (L' := [(0, .ref (adb bs b))]) ?_ rfl rfl rfl
  refine aw_aload_n (j := 0) dX8_init_0 rfl rfl ?_
  refine aw_objInit dX8_init_1 ob_X8_3 (Nat.le_of_ble_eq_true rfl) ?_
  refine aw_aload_n (j := 0) dX8_init_4 rfl rfl ?_
  refine aw_bipush (v := 32) dX8_init_5 (by decide) ?_
  refine aw_newa0 (n := n) (kc := 3) (ks := 24) (N := 32) dX8_init_7 hn ar_0 (by decide) (by decide +kernel) (by decide +kernel) ?_
  refine aw_putFR (x := n) dX8_init_9 f_X8_9 cl_X8 rfl rfl rfl (at_old hb) rfl rfl rfl ?_
  refine aw_aload_n (j := 0) dX8_init_12 rfl rfl ?_
  refine aw_bipush (v := 8) dX8_init_13 (by decide) ?_
  refine aw_newa0 (n := n + 1) (kc := 2) (ks := 16) (N := 8) dX8_init_15 (len_push hn) ar_0 (by decide) (by decide +kernel) (by decide +kernel) ?_
  refine aw_putFR (x := n + 1) dX8_init_17 f_X8_15 cl_X8 rfl rfl rfl (at_old (at_old hb)) rfl rfl rfl ?_
  refine aw_aload_n (j := 0) dX8_init_20 rfl rfl ?_
  refine aw_bipush (v := 8) dX8_init_21 (by decide) ?_
  refine aw_newa0 (n := n + 2) (kc := 1) (ks := 8) (N := 8) dX8_init_23 (len_push (len_push hn)) ar_0 (by decide) (by decide +kernel) (by decide +kernel) ?_
  refine aw_putFR (x := n + 2) dX8_init_25 f_X8_18 cl_X8 rfl rfl rfl (at_old (at_old (at_old hb))) rfl rfl rfl ?_
  refine aw_aload_n (j := 0) dX8_init_28 rfl rfl ?_
  refine aw_bipush (v := 8) dX8_init_29 (by decide) ?_
  refine aw_newa0 (n := n + 3) (kc := 0) (ks := 0) (N := 8) dX8_init_31 (len_push (len_push (len_push hn))) ar_0 (by decide) (by decide +kernel) (by decide +kernel) ?_
  refine aw_putFR (x := n + 3) dX8_init_33 f_X8_21 cl_X8 rfl rfl rfl (at_old (at_old (at_old (at_old hb)))) rfl rfl rfl ?_
  refine aw_aload_n (j := 0) dX8_init_36 rfl rfl ?_
  refine aw_iconst (v := 1) dX8_init_37 (by decide) ?_
  refine aw_putI dX8_init_38 f_X8_24 cl_X8 rfl (at_old (at_old (at_old (at_old hb)))) rfl (by decide) (by decide) ?_
  exact aw_ret (v := none) rfl (Or.inl ⟨rfl, rfl, dX8_init_41⟩) ⟨rfl, rfl⟩
def K_X3 (m : Wm) (b n : Nat) : Wm := uI (uI (uI (uI (uR (zm (uR (zm (uR (zm (uR (zm (uR (zm m n) b 0 (some n)) (n + 1)) b 1 (some (n + 1))) (n + 2)) b 2 (some (n + 2))) (n + 3)) b 3 (some (n + 3))) (n + 4)) b 4 (some (n + 4))) b 5 (0)) b 6 (0)) b 7 (0)) b 8 (0)
def N_X3 (lay : List Ent) : List Ent := (ps (ps (ps (ps (ps lay (.inr (0, 48))) (.inr (0, 48))) (.inr (0, 48))) (.inr (0, 13))) (.inr (0, 8)))
set_option maxRecDepth 100000 in
set_option maxHeartbeats 40000000 in
theorem n_X3 {bs d : Nat} {lay : List Ent} {m : Wm} {b n : Nat} (hn : lay.length = n) (hb : lay[b]? = some (.inl (3, [2, 2, 2, 2, 2, 0, 0, 0, 0]))) : CtK bs lay ((ps (ps (ps (ps (ps lay (.inr (0, 48))) (.inr (0, 48))) (.inr (0, 48))) (.inr (0, 13))) (.inr (0, 8)))) μX3_init (d + 1) 5 165 [.ref (adb bs b)] m (K_X3 m b n) := by
  refine CtK.of (n := n) (by decide +kernel) rfl rfl hn (Nat.le_of_ble_eq_true rfl) ?_
  refine aw_eq (L' := [(0, .ref (adb bs b))]) ?_ rfl rfl rfl
  refine aw_aload_n (j := 0) dX3_init_0 rfl rfl ?_
  refine aw_objInit dX3_init_1 ob_X3_5 (Nat.le_of_ble_eq_true rfl) ?_
  refine aw_aload_n (j := 0) dX3_init_4 rfl rfl ?_
  refine aw_bipush (v := 48) dX3_init_5 (by decide) ?_
  refine aw_newa0 (n := n) (kc := 4) (ks := 117) (N := 48) dX3_init_7 hn ar_0 (by decide) (by decide +kernel) (by decide +kernel) ?_
  refine aw_putFR (x := n) dX3_init_9 f_X3_11 cl_X3 rfl rfl rfl (at_old hb) rfl rfl rfl ?_
  refine aw_aload_n (j := 0) dX3_init_12 rfl rfl ?_
  refine aw_bipush (v := 48) dX3_init_13 (by decide) ?_
  refine aw_newa0 (n := n + 1) (kc := 3) (ks := 69) (N := 48) dX3_init_15 (len_push hn) ar_0 (by decide) (by decide +kernel) (by decide +kernel) ?_
  refine aw_putFR (x := n + 1) dX3_init_17 f_X3_15 cl_X3 rfl rfl rfl (at_old (at_old hb)) rfl rfl rfl ?_
  refine aw_aload_n (j := 0) dX3_init_20 rfl rfl ?_
  refine aw_bipush (v := 48) dX3_init_21 (by decide) ?_
  refine aw_newa0 (n := n + 2) (kc := 2) (ks := 21) (N := 48) dX3_init_23 (len_push (len_push hn)) ar_0 (by decide) (by decide +kernel) (by decide +kernel) ?_
  refine aw_putFR (x := n + 2) dX3_init_25 f_X3_18 cl_X3 rfl rfl rfl (at_old (at_old (at_old hb))) rfl rfl rfl ?_
  refine aw_aload_n (j := 0) dX3_init_28 rfl rfl ?_
  refine aw_bipush (v := 13) dX3_init_29 (by decide) ?_
  refine aw_newa0 (n := n + 3) (kc := 1) (ks := 8) (N := 13) dX3_init_31 (len_push (len_push (len_push hn))) ar_0 (by decide) (by decide +kernel) (by decide +kernel) ?_
  refine aw_putFR (x := n + 3) dX3_init_33 f_X3_21 cl_X3 rfl rfl rfl (at_old (at_old (at_old (at_old hb)))) rfl rfl rfl ?_
  refine aw_aload_n (j := 0) dX3_init_36 rfl rfl ?_
  refine aw_bipush (v := 8) dX3_init_37 (by decide) ?_
  refine aw_newa0 (n := n + 4) (kc := 0) (ks := 0) (N := 8) dX3_init_39 (len_push (len_push (len_push (len_push hn)))) ar_0 (by decide) (by decide +kernel) (by decide +kernel) ?_
  refine aw_putFR (x := n + 4) dX3_init_41 f_X3_24 cl_X3 rfl rfl rfl (at_old (at_old (at_old (at_old (at_old hb))))) rfl rfl rfl ?_
  refine aw_aload_n (j := 0) dX3_init_44 rfl rfl ?_
  refine aw_iconst (v := 0) dX3_init_45 (by decide) ?_
  refine aw_putI dX3_init_46 f_X3_27 cl_X3 rfl (at_old (at_old (at_old (at_old (at_old hb))))) rfl (by decide) (by decide) ?_
  refine aw_aload_n (j := 0) dX3_init_49 rfl rfl ?_
  refine aw_iconst (v := 0) dX3_init_50 (by decide) ?_
  refine aw_putI dX3_init_51 f_X3_31 cl_X3 rfl (at_old (at_old (at_old (at_old (at_old hb))))) rfl (by decide) (by decide) ?_
  refine aw_aload_n (j := 0) dX3_init_54 rfl rfl ?_
  refine aw_iconst (v := 0) dX3_init_55 (by decide) ?_
  refine aw_putI dX3_init_56 f_X3_34 cl_X3 rfl (at_old (at_old (at_old (at_old (at_old hb))))) rfl (by decide) (by decide) ?_
  refine aw_aload_n (j := 0) dX3_init_59 rfl rfl ?_
  refine aw_iconst (v := 0) dX3_init_60 (by decide) ?_
  refine aw_putI dX3_init_61 f_X3_37 cl_X3 rfl (at_old (at_old (at_old (at_old (at_old hb))))) rfl (by decide) (by decide) ?_
  exact aw_ret (v := none) rfl (Or.inl ⟨rfl, rfl, dX3_init_64⟩) ⟨rfl, rfl⟩
def K_X9 (m : Wm) (b n : Nat) : Wm := uI (uI (uR (zm (uR (zm (uR (zm (uR (zm m n) b 0 (some n)) (n + 1)) b 1 (some (n + 1))) (n + 2)) b 2 (some (n + 2))) (n + 3)) b 3 (some (n + 3))) b 4 (0)) b 5 (0)
def N_X9 (lay : List Ent) : List Ent := (ps (ps (ps (ps lay (.inr (4, 3000))) (.inr (4, 3000))) (.inr (0, 8192))) (.inr (0, 3000)))
set_option maxRecDepth 100000 in
set_option maxHeartbeats 40000000 in
theorem n_X9 {bs d : Nat} {lay : List Ent} {m : Wm} {b n : Nat} (hn : lay.length = n) (hb : lay[b]? = some (.inl (9, [2, 2, 2, 2, 0, 0]))) : CtK bs lay ((ps (ps (ps (ps lay (.inr (4, 3000))) (.inr (4, 3000))) (.inr (0, 8192))) (.inr (0, 3000)))) μX9_init (d + 1) 4 17192 [.ref (adb bs b)] m (K_X9 m b n) := by
  refine CtK.of (n := n) (by decide +kernel) rfl rfl hn (Nat.le_of_ble_eq_true rfl) ?_
  refine aw_eq (L' := [(0, .ref (adb bs b))]) ?_ rfl rfl rfl
  refine aw_aload_n (j := 0) dX9_init_0 rfl rfl ?_
  refine aw_objInit dX9_init_1 ob_X9_3 (Nat.le_of_ble_eq_true rfl) ?_
  refine aw_aload_n (j := 0) dX9_init_4 rfl rfl ?_
  refine aw_sipush (v := 3000) dX9_init_5 (by decide) ?_
  refine aw_newa4 (n := n) (kc := 3) (ks := 14192) (N := 3000) dX9_init_8 hn ar_4 (by decide) (by decide +kernel) (by decide +kernel) ?_
  refine aw_putFR (x := n) dX9_init_10 f_X9_11 cl_X9 rfl rfl rfl (at_old hb) rfl rfl rfl ?_
  refine aw_aload_n (j := 0) dX9_init_13 rfl rfl ?_
  refine aw_sipush (v := 3000) dX9_init_14 (by decide) ?_
  refine aw_newa4 (n := n + 1) (kc := 2) (ks := 11192) (N := 3000) dX9_init_17 (len_push hn) ar_4 (by decide) (by decide +kernel) (by decide +kernel) ?_
  refine aw_putFR (x := n + 1) dX9_init_19 f_X9_15 cl_X9 rfl rfl rfl (at_old (at_old hb)) rfl rfl rfl ?_
  refine aw_aload_n (j := 0) dX9_init_22 rfl rfl ?_
  refine aw_sipush (v := 8192) dX9_init_23 (by decide) ?_
  refine aw_newa0 (n := n + 2) (kc := 1) (ks := 3000) (N := 8192) dX9_init_26 (len_push (len_push hn)) ar_0 (by decide) (by decide +kernel) (by decide +kernel) ?_
  refine aw_putFR (x := n + 2) dX9_init_28 f_X9_18 cl_X9 rfl rfl rfl (at_old (at_old (at_old hb))) rfl rfl rfl ?_
  refine aw_aload_n (j := 0) dX9_init_31 rfl rfl ?_
  refine aw_sipush (v := 3000) dX9_init_32 (by decide) ?_
  refine aw_newa0 (n := n + 3) (kc := 0) (ks := 0) (N := 3000) dX9_init_35 (len_push (len_push (len_push hn))) ar_0 (by decide) (by decide +kernel) (by decide +kernel) ?_
  refine aw_putFR (x := n + 3) dX9_init_37 f_X9_22 cl_X9 rfl rfl rfl (at_old (at_old (at_old (at_old hb)))) rfl rfl rfl ?_
  refine aw_aload_n (j := 0) dX9_init_40 rfl rfl ?_
  refine aw_iconst (v := 0) dX9_init_41 (by decide) ?_
  refine aw_putI dX9_init_42 f_X9_25 cl_X9 rfl (at_old (at_old (at_old (at_old hb)))) rfl (by decide) (by decide) ?_
  refine aw_aload_n (j := 0) dX9_init_45 rfl rfl ?_
  refine aw_iconst (v := 0) dX9_init_46 (by decide) ?_
  refine aw_putI dX9_init_47 f_X9_29 cl_X9 rfl (at_old (at_old (at_old (at_old hb)))) rfl (by decide) (by decide) ?_
  exact aw_ret (v := none) rfl (Or.inl ⟨rfl, rfl, dX9_init_50⟩) ⟨rfl, rfl⟩
def K_X1 (m : Wm) (b n : Nat) : Wm := uI (uI (uI (uI (uI (uR (K_X5 (zm (uR (K_X5 (zm (uR (uI (uI (uI (uI (uI (zm m n) n (0 : Int32).toNatClampNeg (0)) n (1 : Int32).toNatClampNeg (1)) n (2 : Int32).toNatClampNeg (1)) n (3 : Int32).toNatClampNeg (0)) n (4 : Int32).toNatClampNeg (0)) b 0 (some n)) (n + 1)) (n + 1) (n + 2)) b 1 (some (n + 1))) (n + 6)) (n + 6) (n + 7)) b 2 (some (n + 6))) b 3 (0)) b 4 (2)) b 5 (0)) b 6 (-1)) b 7 (0)
def N_X1 (lay : List Ent) : List Ent := (ps (ps (ps (ps (ps (ps (ps (ps (ps (ps (ps lay (.inr (0, 5))) (.inl (5, [2, 2, 2, 2, 0, 0, 0, 0, 0]))) (.inr (0, 40))) (.inr (0, 40))) (.inr (0, 40))) (.inr (3, 5))) (.inl (5, [2, 2, 2, 2, 0, 0, 0, 0, 0]))) (.inr (0, 40))) (.inr (0, 40))) (.inr (0, 40))) (.inr (3, 5)))
set_option maxRecDepth 100000 in
set_option maxHeartbeats 40000000 in
theorem n_X1 {bs d : Nat} {lay : List Ent} {m : Wm} {b n : Nat} (hn : lay.length = n) (hb : lay[b]? = some (.inl (1, [2, 2, 2, 0, 0, 0, 0, 0]))) : CtK bs lay ((ps (ps (ps (ps (ps (ps (ps (ps (ps (ps (ps lay (.inr (0, 5))) (.inl (5, [2, 2, 2, 2, 0, 0, 0, 0, 0]))) (.inr (0, 40))) (.inr (0, 40))) (.inr (0, 40))) (.inr (3, 5))) (.inl (5, [2, 2, 2, 2, 0, 0, 0, 0, 0]))) (.inr (0, 40))) (.inr (0, 40))) (.inr (0, 40))) (.inr (3, 5)))) μX1_init (d + 2) 11 273 [.ref (adb bs b)] m (K_X1 m b n) := by
  refine CtK.of (n := n) (by decide +kernel) rfl rfl hn (Nat.le_of_ble_eq_true rfl) ?_
  refine aw_eq (L' := [(0, .ref (adb bs b))]) ?_ rfl rfl rfl
  refine aw_aload_n (j := 0) dX1_init_0 rfl rfl ?_
  refine aw_objInit dX1_init_1 ob_X1_3 (Nat.le_of_ble_eq_true rfl) ?_
  refine aw_aload_n (j := 0) dX1_init_4 rfl rfl ?_
  refine aw_iconst (v := 5) dX1_init_5 (by decide) ?_
  refine aw_newa0 (n := n) (kc := 10) (ks := 268) (N := 5) dX1_init_6 hn ar_0 (by decide) (by decide +kernel) (by decide +kernel) ?_
  refine aw_dup dX1_init_8 rfl ?_
  refine aw_iconst (v := 0) dX1_init_9 (by decide) ?_
  refine aw_iconst (v := 0) dX1_init_10 (by decide) ?_
  refine aw_iastore dX1_init_11 (at_new hn) (by unfold vp_in; decide) ?_
  refine aw_dup dX1_init_12 rfl ?_
  refine aw_iconst (v := 1) dX1_init_13 (by decide) ?_
  refine aw_iconst (v := 1) dX1_init_14 (by decide) ?_
  refine aw_iastore dX1_init_15 (at_new hn) (by unfold vp_in; decide) ?_
  refine aw_dup dX1_init_16 rfl ?_
  refine aw_iconst (v := 2) dX1_init_17 (by decide) ?_
  refine aw_iconst (v := 1) dX1_init_18 (by decide) ?_
  refine aw_iastore dX1_init_19 (at_new hn) (by unfold vp_in; decide) ?_
  refine aw_dup dX1_init_20 rfl ?_
  refine aw_iconst (v := 3) dX1_init_21 (by decide) ?_
  refine aw_iconst (v := 0) dX1_init_22 (by decide) ?_
  refine aw_iastore dX1_init_23 (at_new hn) (by unfold vp_in; decide) ?_
  refine aw_dup dX1_init_24 rfl ?_
  refine aw_iconst (v := 4) dX1_init_25 (by decide) ?_
  refine aw_iconst (v := 0) dX1_init_26 (by decide) ?_
  refine aw_iastore dX1_init_27 (at_new hn) (by unfold vp_in; decide) ?_
  refine aw_putFR (x := n) dX1_init_28 f_X1_9 cl_X1 rfl rfl rfl (at_old hb) rfl rfl rfl ?_
  refine aw_aload_n (j := 0) dX1_init_31 rfl rfl ?_
  refine aw_new (n := n + 1) (kc := 9) (ks := 259) (N := 9) dX1_init_32 (len_push hn) nw_X1_15 ?_
  refine aw_dup dX1_init_35 rfl ?_
  refine aw_callIN (n := n + 2) (kc := 5) (ks := 134) (kc' := 4) (ks' := 125) (rest := [.ref (adb bs (n + 1)), .ref (adb bs b)]) [] dX1_init_36 (len_push (len_push hn)) (by omega) (len_push (len_push (len_push (len_push (len_push (len_push hn)))))) ki_X1_17 rfl (n_X5 (hn := (len_push (len_push hn))) (hb := (at_new (len_push hn)))) (Nat.le_of_ble_eq_true rfl) ?_
  refine aw_putR (x := n + 1) dX1_init_39 f_X1_18 cl_X1 rfl (at_old (at_old (at_old (at_old (at_old (at_old hb)))))) rfl rfl rfl ?_
  refine aw_aload_n (j := 0) dX1_init_42 rfl rfl ?_
  refine aw_new (n := n + 6) (kc := 4) (ks := 125) (N := 9) dX1_init_43 (len_push (len_push (len_push (len_push (len_push (len_push hn)))))) nw_X1_15 ?_
  refine aw_dup dX1_init_46 rfl ?_
  refine aw_callIN (n := n + 7) (kc := 0) (ks := 0) (kc' := 4) (ks' := 125) (rest := [.ref (adb bs (n + 6)), .ref (adb bs b)]) [] dX1_init_47 (len_push (len_push (len_push (len_push (len_push (len_push (len_push hn))))))) (by omega) (len_push (len_push (len_push (len_push (len_push (len_push (len_push (len_push (len_push (len_push (len_push hn))))))))))) ki_X1_17 rfl (n_X5 (hn := (len_push (len_push (len_push (len_push (len_push (len_push (len_push hn)))))))) (hb := (at_new (len_push (len_push (len_push (len_push (len_push (len_push hn))))))))) (Nat.le_of_ble_eq_true rfl) ?_
  refine aw_putR (x := n + 6) dX1_init_50 f_X1_22 cl_X1 rfl (at_old (at_old (at_old (at_old (at_old (at_old (at_old (at_old (at_old (at_old (at_old hb))))))))))) rfl rfl rfl ?_
  refine aw_aload_n (j := 0) dX1_init_53 rfl rfl ?_
  refine aw_iconst (v := 0) dX1_init_54 (by decide) ?_
  refine aw_putI dX1_init_55 f_X1_25 cl_X1 rfl (at_old (at_old (at_old (at_old (at_old (at_old (at_old (at_old (at_old (at_old (at_old hb))))))))))) rfl (by decide) (by decide) ?_
  refine aw_aload_n (j := 0) dX1_init_58 rfl rfl ?_
  refine aw_iconst (v := 2) dX1_init_59 (by decide) ?_
  refine aw_putI dX1_init_60 f_X1_29 cl_X1 rfl (at_old (at_old (at_old (at_old (at_old (at_old (at_old (at_old (at_old (at_old (at_old hb))))))))))) rfl (by decide) (by decide) ?_
  refine aw_aload_n (j := 0) dX1_init_63 rfl rfl ?_
  refine aw_iconst (v := 0) dX1_init_64 (by decide) ?_
  refine aw_putI dX1_init_65 f_X1_32 cl_X1 rfl (at_old (at_old (at_old (at_old (at_old (at_old (at_old (at_old (at_old (at_old (at_old hb))))))))))) rfl (by decide) (by decide) ?_
  refine aw_aload_n (j := 0) dX1_init_68 rfl rfl ?_
  refine aw_iconst (v := -1) dX1_init_69 (by decide) ?_
  refine aw_putI dX1_init_70 f_X1_35 cl_X1 rfl (at_old (at_old (at_old (at_old (at_old (at_old (at_old (at_old (at_old (at_old (at_old hb))))))))))) rfl (by decide) (by decide) ?_
  refine aw_aload_n (j := 0) dX1_init_73 rfl rfl ?_
  refine aw_iconst (v := 0) dX1_init_74 (by decide) ?_
  refine aw_putI dX1_init_75 f_X1_38 cl_X1 rfl (at_old (at_old (at_old (at_old (at_old (at_old (at_old (at_old (at_old (at_old (at_old hb))))))))))) rfl (by decide) (by decide) ?_
  exact aw_ret (v := none) rfl (Or.inl ⟨rfl, rfl, dX1_init_78⟩) ⟨rfl, rfl⟩
def K_X4 (m : Wm) (b n : Nat) : Wm := uI (uI (uI (uI (uI (uI (uI (uR (K_X8 (zm m n) n (n + 1)) b 0 (some n)) b 1 (0)) b 2 (0)) b 3 (0)) b 4 (0)) b 5 (0)) b 6 (0)) b 7 (0)
def N_X4 (lay : List Ent) : List Ent := (ps (ps (ps (ps (ps lay (.inl (8, [2, 2, 2, 2, 0]))) (.inr (0, 32))) (.inr (0, 8))) (.inr (0, 8))) (.inr (0, 8)))
set_option maxRecDepth 100000 in
set_option maxHeartbeats 40000000 in
theorem n_X4 {bs d : Nat} {lay : List Ent} {m : Wm} {b n : Nat} (hn : lay.length = n) (hb : lay[b]? = some (.inl (4, [2, 0, 0, 0, 0, 0, 0, 0]))) : CtK bs lay ((ps (ps (ps (ps (ps lay (.inl (8, [2, 2, 2, 2, 0]))) (.inr (0, 32))) (.inr (0, 8))) (.inr (0, 8))) (.inr (0, 8)))) μX4_init (d + 2) 5 61 [.ref (adb bs b)] m (K_X4 m b n) := by
  refine CtK.of (n := n) (by decide +kernel) rfl rfl hn (Nat.le_of_ble_eq_true rfl) ?_
  refine aw_eq (L' := [(0, .ref (adb bs b))]) ?_ rfl rfl rfl
  refine aw_aload_n (j := 0) dX4_init_0 rfl rfl ?_
  refine aw_objInit dX4_init_1 ob_X4_3 (Nat.le_of_ble_eq_true rfl) ?_
  refine aw_aload_n (j := 0) dX4_init_4 rfl rfl ?_
  refine aw_new (n := n) (kc := 4) (ks := 56) (N := 5) dX4_init_5 hn nw_X4_9 ?_
  refine aw_dup dX4_init_8 rfl ?_
  refine aw_callIN (n := n + 1) (kc := 0) (ks := 0) (kc' := 4) (ks' := 56) (rest := [.ref (adb bs n), .ref (adb bs b)]) [] dX4_init_9 (len_push hn) (by omega) (len_push (len_push (len_push (len_push (len_push hn))))) ki_X4_11 rfl (n_X8 (hn := (len_push hn)) (hb := (at_new hn))) (Nat.le_of_ble_eq_true rfl) ?_
  refine aw_putFR (x := n) dX4_init_12 f_X4_12 cl_X4 rfl rfl rfl (at_old (at_old (at_old (at_old (at_old hb))))) rfl rfl rfl ?_
  refine aw_aload_n (j := 0) dX4_init_15 rfl rfl ?_
  refine aw_iconst (v := 0) dX4_init_16 (by decide) ?_
  refine aw_putI dX4_init_17 f_X4_18 cl_X4 rfl (at_old (at_old (at_old (at_old (at_old hb))))) rfl (by decide) (by decide) ?_
  refine aw_aload_n (j := 0) dX4_init_20 rfl rfl ?_
  refine aw_iconst (v := 0) dX4_init_21 (by decide) ?_
  refine aw_putI dX4_init_22 f_X4_22 cl_X4 rfl (at_old (at_old (at_old (at_old (at_old hb))))) rfl (by decide) (by decide) ?_
  refine aw_aload_n (j := 0) dX4_init_25 rfl rfl ?_
  refine aw_iconst (v := 0) dX4_init_26 (by decide) ?_
  refine aw_putI dX4_init_27 f_X4_25 cl_X4 rfl (at_old (at_old (at_old (at_old (at_old hb))))) rfl (by decide) (by decide) ?_
  refine aw_aload_n (j := 0) dX4_init_30 rfl rfl ?_
  refine aw_iconst (v := 0) dX4_init_31 (by decide) ?_
  refine aw_putI dX4_init_32 f_X4_28 cl_X4 rfl (at_old (at_old (at_old (at_old (at_old hb))))) rfl (by decide) (by decide) ?_
  refine aw_aload_n (j := 0) dX4_init_35 rfl rfl ?_
  refine aw_iconst (v := 0) dX4_init_36 (by decide) ?_
  refine aw_putI dX4_init_37 f_X4_31 cl_X4 rfl (at_old (at_old (at_old (at_old (at_old hb))))) rfl (by decide) (by decide) ?_
  refine aw_aload_n (j := 0) dX4_init_40 rfl rfl ?_
  refine aw_iconst (v := 0) dX4_init_41 (by decide) ?_
  refine aw_putI dX4_init_42 f_X4_34 cl_X4 rfl (at_old (at_old (at_old (at_old (at_old hb))))) rfl (by decide) (by decide) ?_
  refine aw_aload_n (j := 0) dX4_init_45 rfl rfl ?_
  refine aw_iconst (v := 0) dX4_init_46 (by decide) ?_
  refine aw_putI dX4_init_47 f_X4_37 cl_X4 rfl (at_old (at_old (at_old (at_old (at_old hb))))) rfl (by decide) (by decide) ?_
  exact aw_ret (v := none) rfl (Or.inl ⟨rfl, rfl, dX4_init_50⟩) ⟨rfl, rfl⟩
def K_X0 (m : Wm) (b n : Nat) : Wm := uI (uI (uI (uR (zm (uR (K_X8 (zm m n) n (n + 1)) b 0 (some n)) (n + 5)) b 1 (some (n + 5))) b 2 (0)) b 3 (0)) b 4 (0)
def N_X0 (lay : List Ent) : List Ent := (ps (ps (ps (ps (ps (ps lay (.inl (8, [2, 2, 2, 2, 0]))) (.inr (0, 32))) (.inr (0, 8))) (.inr (0, 8))) (.inr (0, 8))) (.inr (0, 5)))
set_option maxRecDepth 100000 in
set_option maxHeartbeats 40000000 in
theorem n_X0 {bs d : Nat} {lay : List Ent} {m : Wm} {b n : Nat} (hn : lay.length = n) (hb : lay[b]? = some (.inl (0, [2, 2, 0, 0, 0]))) : CtK bs lay ((ps (ps (ps (ps (ps (ps lay (.inl (8, [2, 2, 2, 2, 0]))) (.inr (0, 32))) (.inr (0, 8))) (.inr (0, 8))) (.inr (0, 8))) (.inr (0, 5)))) μX0_init (d + 2) 6 66 [.ref (adb bs b)] m (K_X0 m b n) := by
  refine CtK.of (n := n) (by decide +kernel) rfl rfl hn (Nat.le_of_ble_eq_true rfl) ?_
  refine aw_eq (L' := [(0, .ref (adb bs b))]) ?_ rfl rfl rfl
  refine aw_aload_n (j := 0) dX0_init_0 rfl rfl ?_
  refine aw_objInit dX0_init_1 ob_X0_3 (Nat.le_of_ble_eq_true rfl) ?_
  refine aw_aload_n (j := 0) dX0_init_4 rfl rfl ?_
  refine aw_new (n := n) (kc := 5) (ks := 61) (N := 5) dX0_init_5 hn nw_X0_9 ?_
  refine aw_dup dX0_init_8 rfl ?_
  refine aw_callIN (n := n + 1) (kc := 1) (ks := 5) (kc' := 4) (ks' := 56) (rest := [.ref (adb bs n), .ref (adb bs b)]) [] dX0_init_9 (len_push hn) (by omega) (len_push (len_push (len_push (len_push (len_push hn))))) ki_X0_11 rfl (n_X8 (hn := (len_push hn)) (hb := (at_new hn))) (Nat.le_of_ble_eq_true rfl) ?_
  refine aw_putFR (x := n) dX0_init_12 f_X0_12 cl_X0 rfl rfl rfl (at_old (at_old (at_old (at_old (at_old hb))))) rfl rfl rfl ?_
  refine aw_aload_n (j := 0) dX0_init_15 rfl rfl ?_
  refine aw_iconst (v := 5) dX0_init_16 (by decide) ?_
  refine aw_newa0 (n := n + 5) (kc := 0) (ks := 0) (N := 5) dX0_init_17 (len_push (len_push (len_push (len_push (len_push hn))))) ar_0 (by decide) (by decide +kernel) (by decide +kernel) ?_
  refine aw_putFR (x := n + 5) dX0_init_19 f_X0_18 cl_X0 rfl rfl rfl (at_old (at_old (at_old (at_old (at_old (at_old hb)))))) rfl rfl rfl ?_
  refine aw_aload_n (j := 0) dX0_init_22 rfl rfl ?_
  refine aw_iconst (v := 0) dX0_init_23 (by decide) ?_
  refine aw_putI dX0_init_24 f_X0_22 cl_X0 rfl (at_old (at_old (at_old (at_old (at_old (at_old hb)))))) rfl (by decide) (by decide) ?_
  refine aw_aload_n (j := 0) dX0_init_27 rfl rfl ?_
  refine aw_iconst (v := 0) dX0_init_28 (by decide) ?_
  refine aw_putI dX0_init_29 f_X0_26 cl_X0 rfl (at_old (at_old (at_old (at_old (at_old (at_old hb)))))) rfl (by decide) (by decide) ?_
  refine aw_aload_n (j := 0) dX0_init_32 rfl rfl ?_
  refine aw_iconst (v := 0) dX0_init_33 (by decide) ?_
  refine aw_putI dX0_init_34 f_X0_29 cl_X0 rfl (at_old (at_old (at_old (at_old (at_old (at_old hb)))))) rfl (by decide) (by decide) ?_
  exact aw_ret (v := none) rfl (Or.inl ⟨rfl, rfl, dX0_init_37⟩) ⟨rfl, rfl⟩
def K_X6 (m : Wm) (b n : Nat) (a1 : Nat) : Wm := uR (uI (uR (zm (uR (zm (uR (zm (uR (zm (uR (K_X8 (zm m n) n (n + 1)) b 1 (some n)) (n + 5)) b 2 (some (n + 5))) (n + 6)) b 3 (some (n + 6))) (n + 7)) b 4 (some (n + 7))) (n + 8)) b 5 (some (n + 8))) b 6 (0)) b 0 (some a1)
def N_X6 (lay : List Ent) : List Ent := (ps (ps (ps (ps (ps (ps (ps (ps (ps lay (.inl (8, [2, 2, 2, 2, 0]))) (.inr (0, 32))) (.inr (0, 8))) (.inr (0, 8))) (.inr (0, 8))) (.inr (0, 8))) (.inr (0, 3000))) (.inr (0, 3000))) (.inr (0, 3000)))
set_option maxRecDepth 100000 in
set_option maxHeartbeats 40000000 in
theorem n_X6 {bs d : Nat} {lay : List Ent} {m : Wm} {b n : Nat} {a1 : Nat} (hn : lay.length = n) (hb : lay[b]? = some (.inl (6, [2, 2, 2, 2, 2, 2, 0]))) (ha1 : lay[a1]? = some (.inl (9, [2, 2, 2, 2, 0, 0]))) : CtK bs lay ((ps (ps (ps (ps (ps (ps (ps (ps (ps lay (.inl (8, [2, 2, 2, 2, 0]))) (.inr (0, 32))) (.inr (0, 8))) (.inr (0, 8))) (.inr (0, 8))) (.inr (0, 8))) (.inr (0, 3000))) (.inr (0, 3000))) (.inr (0, 3000)))) μX6_init (d + 2) 9 9069 [.ref (adb bs b), .ref (adb bs a1)] m (K_X6 m b n a1) := by
  refine CtK.of (n := n) (by decide +kernel) rfl rfl hn (Nat.le_of_ble_eq_true rfl) ?_
  refine aw_eq (L' := [(0, .ref (adb bs b)), (1, .ref (adb bs a1))]) ?_ rfl rfl rfl
  refine aw_aload_n (j := 0) dX6_init_0 rfl rfl ?_
  refine aw_objInit dX6_init_1 ob_X6_3 (Nat.le_of_ble_eq_true rfl) ?_
  refine aw_aload_n (j := 0) dX6_init_4 rfl rfl ?_
  refine aw_new (n := n) (kc := 8) (ks := 9064) (N := 5) dX6_init_5 hn nw_X6_9 ?_
  refine aw_dup dX6_init_8 rfl ?_
  refine aw_callIN (n := n + 1) (kc := 4) (ks := 9008) (kc' := 4) (ks' := 56) (rest := [.ref (adb bs n), .ref (adb bs b)]) [] dX6_init_9 (len_push hn) (by omega) (len_push (len_push (len_push (len_push (len_push hn))))) ki_X6_11 rfl (n_X8 (hn := (len_push hn)) (hb := (at_new hn))) (Nat.le_of_ble_eq_true rfl) ?_
  refine aw_putFR (x := n) dX6_init_12 f_X6_12 cl_X6 rfl rfl rfl (at_old (at_old (at_old (at_old (at_old hb))))) rfl rfl rfl ?_
  refine aw_aload_n (j := 0) dX6_init_15 rfl rfl ?_
  refine aw_bipush (v := 8) dX6_init_16 (by decide) ?_
  refine aw_newa0 (n := n + 5) (kc := 3) (ks := 9000) (N := 8) dX6_init_18 (len_push (len_push (len_push (len_push (len_push hn))))) ar_0 (by decide) (by decide +kernel) (by decide +kernel) ?_
  refine aw_putFR (x := n + 5) dX6_init_20 f_X6_18 cl_X6 rfl rfl rfl (at_old (at_old (at_old (at_old (at_old (at_old hb)))))) rfl rfl rfl ?_
  refine aw_aload_n (j := 0) dX6_init_23 rfl rfl ?_
  refine aw_sipush (v := 3000) dX6_init_24 (by decide) ?_
  refine aw_newa0 (n := n + 6) (kc := 2) (ks := 6000) (N := 3000) dX6_init_27 (len_push (len_push (len_push (len_push (len_push (len_push hn)))))) ar_0 (by decide) (by decide +kernel) (by decide +kernel) ?_
  refine aw_putFR (x := n + 6) dX6_init_29 f_X6_24 cl_X6 rfl rfl rfl (at_old (at_old (at_old (at_old (at_old (at_old (at_old hb))))))) rfl rfl rfl ?_
  refine aw_aload_n (j := 0) dX6_init_32 rfl rfl ?_
  refine aw_sipush (v := 3000) dX6_init_33 (by decide) ?_
  refine aw_newa0 (n := n + 7) (kc := 1) (ks := 3000) (N := 3000) dX6_init_36 (len_push (len_push (len_push (len_push (len_push (len_push (len_push hn))))))) ar_0 (by decide) (by decide +kernel) (by decide +kernel) ?_
  refine aw_putFR (x := n + 7) dX6_init_38 f_X6_27 cl_X6 rfl rfl rfl (at_old (at_old (at_old (at_old (at_old (at_old (at_old (at_old hb)))))))) rfl rfl rfl ?_
  refine aw_aload_n (j := 0) dX6_init_41 rfl rfl ?_
  refine aw_sipush (v := 3000) dX6_init_42 (by decide) ?_
  refine aw_newa0 (n := n + 8) (kc := 0) (ks := 0) (N := 3000) dX6_init_45 (len_push (len_push (len_push (len_push (len_push (len_push (len_push (len_push hn)))))))) ar_0 (by decide) (by decide +kernel) (by decide +kernel) ?_
  refine aw_putFR (x := n + 8) dX6_init_47 f_X6_30 cl_X6 rfl rfl rfl (at_old (at_old (at_old (at_old (at_old (at_old (at_old (at_old (at_old hb))))))))) rfl rfl rfl ?_
  refine aw_aload_n (j := 0) dX6_init_50 rfl rfl ?_
  refine aw_iconst (v := 0) dX6_init_51 (by decide) ?_
  refine aw_putI dX6_init_52 f_X6_33 cl_X6 rfl (at_old (at_old (at_old (at_old (at_old (at_old (at_old (at_old (at_old hb))))))))) rfl (by decide) (by decide) ?_
  refine aw_aload_n (j := 0) dX6_init_55 rfl rfl ?_
  refine aw_aload_n (j := 1) dX6_init_56 rfl rfl ?_
  refine aw_putFR (x := a1) dX6_init_57 f_X6_37 cl_X6 rfl rfl rfl (at_old (at_old (at_old (at_old (at_old (at_old (at_old (at_old (at_old hb))))))))) rfl rfl rfl ?_
  exact aw_ret (v := none) rfl (Or.inl ⟨rfl, rfl, dX6_init_60⟩) ⟨rfl, rfl⟩
def K_X7 (m : Wm) (b n : Nat) (a1 : Nat) : Wm := uR (uL (uI (uI (uR (zm (uR (K_X8 (zm m n) n (n + 1)) b 1 (some n)) (n + 5)) b 2 (some (n + 5))) b 3 (0)) b 4 (0)) b 5 (0)) b 0 (some a1)
def N_X7 (lay : List Ent) : List Ent := (ps (ps (ps (ps (ps (ps lay (.inl (8, [2, 2, 2, 2, 0]))) (.inr (0, 32))) (.inr (0, 8))) (.inr (0, 8))) (.inr (0, 8))) (.inr (0, 8)))
set_option maxRecDepth 100000 in
set_option maxHeartbeats 40000000 in
theorem n_X7 {bs d : Nat} {lay : List Ent} {m : Wm} {b n : Nat} {a1 : Nat} (hn : lay.length = n) (hb : lay[b]? = some (.inl (7, [2, 2, 2, 0, 0, 1]))) (ha1 : lay[a1]? = some (.inl (9, [2, 2, 2, 2, 0, 0]))) : CtK bs lay ((ps (ps (ps (ps (ps (ps lay (.inl (8, [2, 2, 2, 2, 0]))) (.inr (0, 32))) (.inr (0, 8))) (.inr (0, 8))) (.inr (0, 8))) (.inr (0, 8)))) μX7_init (d + 2) 6 69 [.ref (adb bs b), .ref (adb bs a1)] m (K_X7 m b n a1) := by
  refine CtK.of (n := n) (by decide +kernel) rfl rfl hn (Nat.le_of_ble_eq_true rfl) ?_
  refine aw_eq (L' := [(0, .ref (adb bs b)), (1, .ref (adb bs a1))]) ?_ rfl rfl rfl
  refine aw_aload_n (j := 0) dX7_init_0 rfl rfl ?_
  refine aw_objInit dX7_init_1 ob_X7_3 (Nat.le_of_ble_eq_true rfl) ?_
  refine aw_aload_n (j := 0) dX7_init_4 rfl rfl ?_
  refine aw_new (n := n) (kc := 5) (ks := 64) (N := 5) dX7_init_5 hn nw_X7_9 ?_
  refine aw_dup dX7_init_8 rfl ?_
  refine aw_callIN (n := n + 1) (kc := 1) (ks := 8) (kc' := 4) (ks' := 56) (rest := [.ref (adb bs n), .ref (adb bs b)]) [] dX7_init_9 (len_push hn) (by omega) (len_push (len_push (len_push (len_push (len_push hn))))) ki_X7_11 rfl (n_X8 (hn := (len_push hn)) (hb := (at_new hn))) (Nat.le_of_ble_eq_true rfl) ?_
  refine aw_putFR (x := n) dX7_init_12 f_X7_12 cl_X7 rfl rfl rfl (at_old (at_old (at_old (at_old (at_old hb))))) rfl rfl rfl ?_
  refine aw_aload_n (j := 0) dX7_init_15 rfl rfl ?_
  refine aw_bipush (v := 8) dX7_init_16 (by decide) ?_
  refine aw_newa0 (n := n + 5) (kc := 0) (ks := 0) (N := 8) dX7_init_18 (len_push (len_push (len_push (len_push (len_push hn))))) ar_0 (by decide) (by decide +kernel) (by decide +kernel) ?_
  refine aw_putFR (x := n + 5) dX7_init_20 f_X7_18 cl_X7 rfl rfl rfl (at_old (at_old (at_old (at_old (at_old (at_old hb)))))) rfl rfl rfl ?_
  refine aw_aload_n (j := 0) dX7_init_23 rfl rfl ?_
  refine aw_iconst (v := 0) dX7_init_24 (by decide) ?_
  refine aw_putI dX7_init_25 f_X7_22 cl_X7 rfl (at_old (at_old (at_old (at_old (at_old (at_old hb)))))) rfl (by decide) (by decide) ?_
  refine aw_aload_n (j := 0) dX7_init_28 rfl rfl ?_
  refine aw_iconst (v := 0) dX7_init_29 (by decide) ?_
  refine aw_putI dX7_init_30 f_X7_26 cl_X7 rfl (at_old (at_old (at_old (at_old (at_old (at_old hb)))))) rfl (by decide) (by decide) ?_
  refine aw_aload_n (j := 0) dX7_init_33 rfl rfl ?_
  refine aw_lconst (v := 0) dX7_init_34 (by decide) ?_
  refine aw_putL dX7_init_35 f_X7_29 cl_X7 rfl (at_old (at_old (at_old (at_old (at_old (at_old hb)))))) rfl (by decide) (by decide) ?_
  refine aw_aload_n (j := 0) dX7_init_38 rfl rfl ?_
  refine aw_aload_n (j := 1) dX7_init_39 rfl rfl ?_
  refine aw_putFR (x := a1) dX7_init_40 f_X7_33 cl_X7 rfl rfl rfl (at_old (at_old (at_old (at_old (at_old (at_old hb)))))) rfl rfl rfl ?_
  exact aw_ret (v := none) rfl (Or.inl ⟨rfl, rfl, dX7_init_43⟩) ⟨rfl, rfl⟩
end
section
def K_X12 (m : Wm) (b n : Nat) : Wm := uR (zm (uR (zm (uR (zm (uR (zm (uR (zm (uR (zm (uR (zm (uR (zm (uR (zm (uR (zm (uR (zm (uR (zm (uR (zm (uR (zm (uR (zm (uR (zm (uI (uR (zm (uR (zm (uR (zm (uR (zm (uR (zm (uR (zm (uR (zm (uI (uR (uI (uI (uI (uI (uI (zm (uR (zm (uR (zm (uR (zm (uR (zm (uR (zm (uI m b 0 (2)) n) b 2 (some n)) (n + 1)) b 3 (some (n + 1))) (n + 2)) b 4 (some (n + 2))) (n + 3)) b 5 (some (n + 3))) (n + 4)) b 6 (some (n + 4))) (n + 5)) (n + 5) (0 : Int32).toNatClampNeg (0)) (n + 5) (1 : Int32).toNatClampNeg (1)) (n + 5) (2 : Int32).toNatClampNeg (1)) (n + 5) (3 : Int32).toNatClampNeg (0)) (n + 5) (4 : Int32).toNatClampNeg (0)) b 7 (some (n + 5))) b 8 (1)) (n + 6)) b 9 (some (n + 6))) (n + 7)) b 13 (some (n + 7))) (n + 8)) b 15 (some (n + 8))) (n + 9)) b 23 (some (n + 9))) (n + 10)) b 24 (some (n + 10))) (n + 11)) b 25 (some (n + 11))) (n + 12)) b 26 (some (n + 12))) b 28 (-1)) (n + 13)) b 29 (some (n + 13))) (n + 14)) b 31 (some (n + 14))) (n + 15)) b 36 (some (n + 15))) (n + 16)) b 37 (some (n + 16))) (n + 17)) b 38 (some (n + 17))) (n + 18)) b 39 (some (n + 18))) (n + 19)) b 40 (some (n + 19))) (n + 20)) b 41 (some (n + 20))) (n + 21)) b 42 (some (n + 21))) (n + 22)) b 44 (some (n + 22))) (n + 23)) b 47 (some (n + 23))) (n + 24)) b 50 (some (n + 24))) (n + 25)) b 51 (some (n + 25))) (n + 26)) b 54 (some (n + 26))) (n + 27)) b 55 (some (n + 27))) (n + 28)) b 56 (some (n + 28))
def N_X12 (lay : List Ent) : List Ent := (ps (ps (ps (ps (ps (ps (ps (ps (ps (ps (ps (ps (ps (ps (ps (ps (ps (ps (ps (ps (ps (ps (ps (ps (ps (ps (ps (ps (ps lay (.inr (0, 32))) (.inr (3, 8))) (.inr (0, 8))) (.inr (0, 8))) (.inr (0, 8))) (.inr (0, 5))) (.inr (0, 160))) (.inr (1, 80))) (.inr (4, 16))) (.inr (0, 32))) (.inr (3, 8))) (.inr (0, 160))) (.inr (1, 40))) (.inr (0, 1140))) (.inr (0, 57))) (.inr (0, 9))) (.inr (0, 57))) (.inr (4, 3000))) (.inr (4, 3000))) (.inr (0, 3000))) (.inr (0, 3000))) (.inr (0, 3000))) (.inr (0, 8192))) (.inr (0, 399))) (.inr (0, 3000))) (.inr (0, 36))) (.inr (0, 142))) (.inr (3, 2))) (.inr (0, 2)))
set_option maxRecDepth 100000 in
set_option maxHeartbeats 40000000 in
theorem n_X12 {bs d : Nat} {lay : List Ent} {m : Wm} {b n : Nat} (hn : lay.length = n) (hb : lay[b]? = some (.inl (12, [0, 0, 2, 2, 2, 2, 2, 2, 0, 2, 0, 0, 0, 2, 0, 2, 0, 0, 2, 0, 0, 0, 0, 2, 2, 2, 2, 0, 0, 2, 0, 2, 0, 0, 0, 0, 2, 2, 2, 2, 2, 2, 2, 0, 2, 0, 0, 2, 0, 0, 2, 2, 0, 0, 2, 2, 2]))) : CtK bs lay ((ps (ps (ps (ps (ps (ps (ps (ps (ps (ps (ps (ps (ps (ps (ps (ps (ps (ps (ps (ps (ps (ps (ps (ps (ps (ps (ps (ps (ps lay (.inr (0, 32))) (.inr (3, 8))) (.inr (0, 8))) (.inr (0, 8))) (.inr (0, 8))) (.inr (0, 5))) (.inr (0, 160))) (.inr (1, 80))) (.inr (4, 16))) (.inr (0, 32))) (.inr (3, 8))) (.inr (0, 160))) (.inr (1, 40))) (.inr (0, 1140))) (.inr (0, 57))) (.inr (0, 9))) (.inr (0, 57))) (.inr (4, 3000))) (.inr (4, 3000))) (.inr (0, 3000))) (.inr (0, 3000))) (.inr (0, 3000))) (.inr (0, 8192))) (.inr (0, 399))) (.inr (0, 3000))) (.inr (0, 36))) (.inr (0, 142))) (.inr (3, 2))) (.inr (0, 2)))) μX12_init (d + 1) 29 28601 [.ref (adb bs b)] m (K_X12 m b n) := by
  refine CtK.of (n := n) (by decide +kernel) rfl rfl hn (Nat.le_of_ble_eq_true rfl) ?_
  refine aw_eq (L' := [(0, .ref (adb bs b))]) ?_ rfl rfl rfl
  refine aw_aload_n (j := 0) dX12_init_0 rfl rfl ?_
  refine aw_objInit dX12_init_1 ob_X12_3 (Nat.le_of_ble_eq_true rfl) ?_
  refine aw_aload_n (j := 0) dX12_init_4 rfl rfl ?_
  refine aw_iconst (v := 2) dX12_init_5 (by decide) ?_
  refine aw_putI dX12_init_6 f_X12_9 cl_X12 rfl hb rfl (by decide) (by decide) ?_
  refine aw_aload_n (j := 0) dX12_init_9 rfl rfl ?_
  refine aw_bipush (v := 32) dX12_init_10 (by decide) ?_
  refine aw_newa0 (n := n) (kc := 28) (ks := 28569) (N := 32) dX12_init_12 hn ar_0 (by decide) (by decide +kernel) (by decide +kernel) ?_
  refine aw_putFR (x := n) dX12_init_14 f_X12_13 cl_X12 rfl rfl rfl (at_old hb) rfl rfl rfl ?_
  refine aw_aload_n (j := 0) dX12_init_17 rfl rfl ?_
  refine aw_bipush (v := 8) dX12_init_18 (by decide) ?_
  refine aw_newa3 (n := n + 1) (kc := 27) (ks := 28561) (N := 8) dX12_init_20 (len_push hn) ar_3 (by decide) (by decide +kernel) (by decide +kernel) ?_
  refine aw_putFR (x := n + 1) dX12_init_22 f_X12_17 cl_X12 rfl rfl rfl (at_old (at_old hb)) rfl rfl rfl ?_
  refine aw_aload_n (j := 0) dX12_init_25 rfl rfl ?_
  refine aw_bipush (v := 8) dX12_init_26 (by decide) ?_
  refine aw_newa0 (n := n + 2) (kc := 26) (ks := 28553) (N := 8) dX12_init_28 (len_push (len_push hn)) ar_0 (by decide) (by decide +kernel) (by decide +kernel) ?_
  refine aw_putFR (x := n + 2) dX12_init_30 f_X12_21 cl_X12 rfl rfl rfl (at_old (at_old (at_old hb))) rfl rfl rfl ?_
  refine aw_aload_n (j := 0) dX12_init_33 rfl rfl ?_
  refine aw_bipush (v := 8) dX12_init_34 (by decide) ?_
  refine aw_newa0 (n := n + 3) (kc := 25) (ks := 28545) (N := 8) dX12_init_36 (len_push (len_push (len_push hn))) ar_0 (by decide) (by decide +kernel) (by decide +kernel) ?_
  refine aw_putFR (x := n + 3) dX12_init_38 f_X12_24 cl_X12 rfl rfl rfl (at_old (at_old (at_old (at_old hb)))) rfl rfl rfl ?_
  refine aw_aload_n (j := 0) dX12_init_41 rfl rfl ?_
  refine aw_bipush (v := 8) dX12_init_42 (by decide) ?_
  refine aw_newa0 (n := n + 4) (kc := 24) (ks := 28537) (N := 8) dX12_init_44 (len_push (len_push (len_push (len_push hn)))) ar_0 (by decide) (by decide +kernel) (by decide +kernel) ?_
  refine aw_putFR (x := n + 4) dX12_init_46 f_X12_27 cl_X12 rfl rfl rfl (at_old (at_old (at_old (at_old (at_old hb))))) rfl rfl rfl ?_
  refine aw_aload_n (j := 0) dX12_init_49 rfl rfl ?_
  refine aw_iconst (v := 5) dX12_init_50 (by decide) ?_
  refine aw_newa0 (n := n + 5) (kc := 23) (ks := 28532) (N := 5) dX12_init_51 (len_push (len_push (len_push (len_push (len_push hn))))) ar_0 (by decide) (by decide +kernel) (by decide +kernel) ?_
  refine aw_dup dX12_init_53 rfl ?_
  refine aw_iconst (v := 0) dX12_init_54 (by decide) ?_
  refine aw_iconst (v := 0) dX12_init_55 (by decide) ?_
  refine aw_iastore dX12_init_56 (at_new (len_push (len_push (len_push (len_push (len_push hn)))))) (by unfold vp_in; decide) ?_
  refine aw_dup dX12_init_57 rfl ?_
  refine aw_iconst (v := 1) dX12_init_58 (by decide) ?_
  refine aw_iconst (v := 1) dX12_init_59 (by decide) ?_
  refine aw_iastore dX12_init_60 (at_new (len_push (len_push (len_push (len_push (len_push hn)))))) (by unfold vp_in; decide) ?_
  refine aw_dup dX12_init_61 rfl ?_
  refine aw_iconst (v := 2) dX12_init_62 (by decide) ?_
  refine aw_iconst (v := 1) dX12_init_63 (by decide) ?_
  refine aw_iastore dX12_init_64 (at_new (len_push (len_push (len_push (len_push (len_push hn)))))) (by unfold vp_in; decide) ?_
  refine aw_dup dX12_init_65 rfl ?_
  refine aw_iconst (v := 3) dX12_init_66 (by decide) ?_
  refine aw_iconst (v := 0) dX12_init_67 (by decide) ?_
  refine aw_iastore dX12_init_68 (at_new (len_push (len_push (len_push (len_push (len_push hn)))))) (by unfold vp_in; decide) ?_
  refine aw_dup dX12_init_69 rfl ?_
  refine aw_iconst (v := 4) dX12_init_70 (by decide) ?_
  refine aw_iconst (v := 0) dX12_init_71 (by decide) ?_
  refine aw_iastore dX12_init_72 (at_new (len_push (len_push (len_push (len_push (len_push hn)))))) (by unfold vp_in; decide) ?_
  refine aw_putFR (x := n + 5) dX12_init_73 f_X12_30 cl_X12 rfl rfl rfl (at_old (at_old (at_old (at_old (at_old (at_old hb)))))) rfl rfl rfl ?_
  refine aw_aload_n (j := 0) dX12_init_76 rfl rfl ?_
  refine aw_iconst (v := 1) dX12_init_77 (by decide) ?_
  refine aw_putI dX12_init_78 f_X12_33 cl_X12 rfl (at_old (at_old (at_old (at_old (at_old (at_old hb)))))) rfl (by decide) (by decide) ?_
  refine aw_aload_n (j := 0) dX12_init_81 rfl rfl ?_
  refine aw_sipush (v := 160) dX12_init_82 (by decide) ?_
  refine aw_newa0 (n := n + 6) (kc := 22) (ks := 28372) (N := 160) dX12_init_85 (len_push (len_push (len_push (len_push (len_push (len_push hn)))))) ar_0 (by decide) (by decide +kernel) (by decide +kernel) ?_
  refine aw_putFR (x := n + 6) dX12_init_87 f_X12_36 cl_X12 rfl rfl rfl (at_old (at_old (at_old (at_old (at_old (at_old (at_old hb))))))) rfl rfl rfl ?_
  refine aw_aload_n (j := 0) dX12_init_90 rfl rfl ?_
  refine aw_bipush (v := 80) dX12_init_91 (by decide) ?_
  refine aw_newa1 (n := n + 7) (kc := 21) (ks := 28292) (N := 80) dX12_init_93 (len_push (len_push (len_push (len_push (len_push (len_push (len_push hn))))))) ar_1 (by decide) (by decide +kernel) (by decide +kernel) ?_
  refine aw_putFR (x := n + 7) dX12_init_95 f_X12_39 cl_X12 rfl rfl rfl (at_old (at_old (at_old (at_old (at_old (at_old (at_old (at_old hb)))))))) rfl rfl rfl ?_
  refine aw_aload_n (j := 0) dX12_init_98 rfl rfl ?_
  refine aw_bipush (v := 16) dX12_init_99 (by decide) ?_
  refine aw_newa4 (n := n + 8) (kc := 20) (ks := 28276) (N := 16) dX12_init_101 (len_push (len_push (len_push (len_push (len_push (len_push (len_push (len_push hn)))))))) ar_4 (by decide) (by decide +kernel) (by decide +kernel) ?_
  refine aw_putFR (x := n + 8) dX12_init_103 f_X12_43 cl_X12 rfl rfl rfl (at_old (at_old (at_old (at_old (at_old (at_old (at_old (at_old (at_old hb))))))))) rfl rfl rfl ?_
  refine aw_aload_n (j := 0) dX12_init_106 rfl rfl ?_
  refine aw_bipush (v := 32) dX12_init_107 (by decide) ?_
  refine aw_newa0 (n := n + 9) (kc := 19) (ks := 28244) (N := 32) dX12_init_109 (len_push (len_push (len_push (len_push (len_push (len_push (len_push (len_push (len_push hn))))))))) ar_0 (by decide) (by decide +kernel) (by decide +kernel) ?_
  refine aw_putFR (x := n + 9) dX12_init_111 f_X12_47 cl_X12 rfl rfl rfl (at_old (at_old (at_old (at_old (at_old (at_old (at_old (at_old (at_old (at_old hb)))))))))) rfl rfl rfl ?_
  refine aw_aload_n (j := 0) dX12_init_114 rfl rfl ?_
  refine aw_bipush (v := 8) dX12_init_115 (by decide) ?_
  refine aw_newa3 (n := n + 10) (kc := 18) (ks := 28236) (N := 8) dX12_init_117 (len_push (len_push (len_push (len_push (len_push (len_push (len_push (len_push (len_push (len_push hn)))))))))) ar_3 (by decide) (by decide +kernel) (by decide +kernel) ?_
  refine aw_putFR (x := n + 10) dX12_init_119 f_X12_50 cl_X12 rfl rfl rfl (at_old (at_old (at_old (at_old (at_old (at_old (at_old (at_old (at_old (at_old (at_old hb))))))))))) rfl rfl rfl ?_
  refine aw_aload_n (j := 0) dX12_init_122 rfl rfl ?_
  refine aw_sipush (v := 160) dX12_init_123 (by decide) ?_
  refine aw_newa0 (n := n + 11) (kc := 17) (ks := 28076) (N := 160) dX12_init_126 (len_push (len_push (len_push (len_push (len_push (len_push (len_push (len_push (len_push (len_push (len_push hn))))))))))) ar_0 (by decide) (by decide +kernel) (by decide +kernel) ?_
  refine aw_putFR (x := n + 11) dX12_init_128 f_X12_53 cl_X12 rfl rfl rfl (at_old (at_old (at_old (at_old (at_old (at_old (at_old (at_old (at_old (at_old (at_old (at_old hb)))))))))))) rfl rfl rfl ?_
  refine aw_aload_n (j := 0) dX12_init_131 rfl rfl ?_
  refine aw_bipush (v := 40) dX12_init_132 (by decide) ?_
  refine aw_newa1 (n := n + 12) (kc := 16) (ks := 28036) (N := 40) dX12_init_134 (len_push (len_push (len_push (len_push (len_push (len_push (len_push (len_push (len_push (len_push (len_push (len_push hn)))))))))))) ar_1 (by decide) (by decide +kernel) (by decide +kernel) ?_
  refine aw_putFR (x := n + 12) dX12_init_136 f_X12_56 cl_X12 rfl rfl rfl (at_old (at_old (at_old (at_old (at_old (at_old (at_old (at_old (at_old (at_old (at_old (at_old (at_old hb))))))))))))) rfl rfl rfl ?_
  refine aw_aload_n (j := 0) dX12_init_139 rfl rfl ?_
  refine aw_iconst (v := -1) dX12_init_140 (by decide) ?_
  refine aw_putI dX12_init_141 f_X12_59 cl_X12 rfl (at_old (at_old (at_old (at_old (at_old (at_old (at_old (at_old (at_old (at_old (at_old (at_old (at_old hb))))))))))))) rfl (by decide) (by decide) ?_
  refine aw_aload_n (j := 0) dX12_init_144 rfl rfl ?_
  refine aw_sipush (v := 1140) dX12_init_145 (by decide) ?_
  refine aw_newa0 (n := n + 13) (kc := 15) (ks := 26896) (N := 1140) dX12_init_148 (len_push (len_push (len_push (len_push (len_push (len_push (len_push (len_push (len_push (len_push (len_push (len_push (len_push hn))))))))))))) ar_0 (by decide) (by decide +kernel) (by decide +kernel) ?_
  refine aw_putFR (x := n + 13) dX12_init_150 f_X12_62 cl_X12 rfl rfl rfl (at_old (at_old (at_old (at_old (at_old (at_old (at_old (at_old (at_old (at_old (at_old (at_old (at_old (at_old hb)))))))))))))) rfl rfl rfl ?_
  refine aw_aload_n (j := 0) dX12_init_153 rfl rfl ?_
  refine aw_bipush (v := 57) dX12_init_154 (by decide) ?_
  refine aw_newa0 (n := n + 14) (kc := 14) (ks := 26839) (N := 57) dX12_init_156 (len_push (len_push (len_push (len_push (len_push (len_push (len_push (len_push (len_push (len_push (len_push (len_push (len_push (len_push hn)))))))))))))) ar_0 (by decide) (by decide +kernel) (by decide +kernel) ?_
  refine aw_putFR (x := n + 14) dX12_init_158 f_X12_65 cl_X12 rfl rfl rfl (at_old (at_old (at_old (at_old (at_old (at_old (at_old (at_old (at_old (at_old (at_old (at_old (at_old (at_old (at_old hb))))))))))))))) rfl rfl rfl ?_
  refine aw_aload_n (j := 0) dX12_init_161 rfl rfl ?_
  refine aw_bipush (v := 9) dX12_init_162 (by decide) ?_
  refine aw_newa0 (n := n + 15) (kc := 13) (ks := 26830) (N := 9) dX12_init_164 (len_push (len_push (len_push (len_push (len_push (len_push (len_push (len_push (len_push (len_push (len_push (len_push (len_push (len_push (len_push hn))))))))))))))) ar_0 (by decide) (by decide +kernel) (by decide +kernel) ?_
  refine aw_putFR (x := n + 15) dX12_init_166 f_X12_68 cl_X12 rfl rfl rfl (at_old (at_old (at_old (at_old (at_old (at_old (at_old (at_old (at_old (at_old (at_old (at_old (at_old (at_old (at_old (at_old hb)))))))))))))))) rfl rfl rfl ?_
  refine aw_aload_n (j := 0) dX12_init_169 rfl rfl ?_
  refine aw_bipush (v := 57) dX12_init_170 (by decide) ?_
  refine aw_newa0 (n := n + 16) (kc := 12) (ks := 26773) (N := 57) dX12_init_172 (len_push (len_push (len_push (len_push (len_push (len_push (len_push (len_push (len_push (len_push (len_push (len_push (len_push (len_push (len_push (len_push hn)))))))))))))))) ar_0 (by decide) (by decide +kernel) (by decide +kernel) ?_
  refine aw_putFR (x := n + 16) dX12_init_174 f_X12_71 cl_X12 rfl rfl rfl (at_old (at_old (at_old (at_old (at_old (at_old (at_old (at_old (at_old (at_old (at_old (at_old (at_old (at_old (at_old (at_old (at_old hb))))))))))))))))) rfl rfl rfl ?_
  refine aw_aload_n (j := 0) dX12_init_177 rfl rfl ?_
  refine aw_sipush (v := 3000) dX12_init_178 (by decide) ?_
  refine aw_newa4 (n := n + 17) (kc := 11) (ks := 23773) (N := 3000) dX12_init_181 (len_push (len_push (len_push (len_push (len_push (len_push (len_push (len_push (len_push (len_push (len_push (len_push (len_push (len_push (len_push (len_push (len_push hn))))))))))))))))) ar_4 (by decide) (by decide +kernel) (by decide +kernel) ?_
  refine aw_putFR (x := n + 17) dX12_init_183 f_X12_74 cl_X12 rfl rfl rfl (at_old (at_old (at_old (at_old (at_old (at_old (at_old (at_old (at_old (at_old (at_old (at_old (at_old (at_old (at_old (at_old (at_old (at_old hb)))))))))))))))))) rfl rfl rfl ?_
  refine aw_aload_n (j := 0) dX12_init_186 rfl rfl ?_
  refine aw_sipush (v := 3000) dX12_init_187 (by decide) ?_
  refine aw_newa4 (n := n + 18) (kc := 10) (ks := 20773) (N := 3000) dX12_init_190 (len_push (len_push (len_push (len_push (len_push (len_push (len_push (len_push (len_push (len_push (len_push (len_push (len_push (len_push (len_push (len_push (len_push (len_push hn)))))))))))))))))) ar_4 (by decide) (by decide +kernel) (by decide +kernel) ?_
  refine aw_putFR (x := n + 18) dX12_init_192 f_X12_77 cl_X12 rfl rfl rfl (at_old (at_old (at_old (at_old (at_old (at_old (at_old (at_old (at_old (at_old (at_old (at_old (at_old (at_old (at_old (at_old (at_old (at_old (at_old hb))))))))))))))))))) rfl rfl rfl ?_
  refine aw_aload_n (j := 0) dX12_init_195 rfl rfl ?_
  refine aw_sipush (v := 3000) dX12_init_196 (by decide) ?_
  refine aw_newa0 (n := n + 19) (kc := 9) (ks := 17773) (N := 3000) dX12_init_199 (len_push (len_push (len_push (len_push (len_push (len_push (len_push (len_push (len_push (len_push (len_push (len_push (len_push (len_push (len_push (len_push (len_push (len_push (len_push hn))))))))))))))))))) ar_0 (by decide) (by decide +kernel) (by decide +kernel) ?_
  refine aw_putFR (x := n + 19) dX12_init_201 f_X12_80 cl_X12 rfl rfl rfl (at_old (at_old (at_old (at_old (at_old (at_old (at_old (at_old (at_old (at_old (at_old (at_old (at_old (at_old (at_old (at_old (at_old (at_old (at_old (at_old hb)))))))))))))))))))) rfl rfl rfl ?_
  refine aw_aload_n (j := 0) dX12_init_204 rfl rfl ?_
  refine aw_sipush (v := 3000) dX12_init_205 (by decide) ?_
  refine aw_newa0 (n := n + 20) (kc := 8) (ks := 14773) (N := 3000) dX12_init_208 (len_push (len_push (len_push (len_push (len_push (len_push (len_push (len_push (len_push (len_push (len_push (len_push (len_push (len_push (len_push (len_push (len_push (len_push (len_push (len_push hn)))))))))))))))))))) ar_0 (by decide) (by decide +kernel) (by decide +kernel) ?_
  refine aw_putFR (x := n + 20) dX12_init_210 f_X12_83 cl_X12 rfl rfl rfl (at_old (at_old (at_old (at_old (at_old (at_old (at_old (at_old (at_old (at_old (at_old (at_old (at_old (at_old (at_old (at_old (at_old (at_old (at_old (at_old (at_old hb))))))))))))))))))))) rfl rfl rfl ?_
  refine aw_aload_n (j := 0) dX12_init_213 rfl rfl ?_
  refine aw_sipush (v := 3000) dX12_init_214 (by decide) ?_
  refine aw_newa0 (n := n + 21) (kc := 7) (ks := 11773) (N := 3000) dX12_init_217 (len_push (len_push (len_push (len_push (len_push (len_push (len_push (len_push (len_push (len_push (len_push (len_push (len_push (len_push (len_push (len_push (len_push (len_push (len_push (len_push (len_push hn))))))))))))))))))))) ar_0 (by decide) (by decide +kernel) (by decide +kernel) ?_
  refine aw_putFR (x := n + 21) dX12_init_219 f_X12_86 cl_X12 rfl rfl rfl (at_old (at_old (at_old (at_old (at_old (at_old (at_old (at_old (at_old (at_old (at_old (at_old (at_old (at_old (at_old (at_old (at_old (at_old (at_old (at_old (at_old (at_old hb)))))))))))))))))))))) rfl rfl rfl ?_
  refine aw_aload_n (j := 0) dX12_init_222 rfl rfl ?_
  refine aw_sipush (v := 8192) dX12_init_223 (by decide) ?_
  refine aw_newa0 (n := n + 22) (kc := 6) (ks := 3581) (N := 8192) dX12_init_226 (len_push (len_push (len_push (len_push (len_push (len_push (len_push (len_push (len_push (len_push (len_push (len_push (len_push (len_push (len_push (len_push (len_push (len_push (len_push (len_push (len_push (len_push hn)))))))))))))))))))))) ar_0 (by decide) (by decide +kernel) (by decide +kernel) ?_
  refine aw_putFR (x := n + 22) dX12_init_228 f_X12_89 cl_X12 rfl rfl rfl (at_old (at_old (at_old (at_old (at_old (at_old (at_old (at_old (at_old (at_old (at_old (at_old (at_old (at_old (at_old (at_old (at_old (at_old (at_old (at_old (at_old (at_old (at_old hb))))))))))))))))))))))) rfl rfl rfl ?_
  refine aw_aload_n (j := 0) dX12_init_231 rfl rfl ?_
  refine aw_sipush (v := 399) dX12_init_232 (by decide) ?_
  refine aw_newa0 (n := n + 23) (kc := 5) (ks := 3182) (N := 399) dX12_init_235 (len_push (len_push (len_push (len_push (len_push (len_push (len_push (len_push (len_push (len_push (len_push (len_push (len_push (len_push (len_push (len_push (len_push (len_push (len_push (len_push (len_push (len_push (len_push hn))))))))))))))))))))))) ar_0 (by decide) (by decide +kernel) (by decide +kernel) ?_
  refine aw_putFR (x := n + 23) dX12_init_237 f_X12_92 cl_X12 rfl rfl rfl (at_old (at_old (at_old (at_old (at_old (at_old (at_old (at_old (at_old (at_old (at_old (at_old (at_old (at_old (at_old (at_old (at_old (at_old (at_old (at_old (at_old (at_old (at_old (at_old hb)))))))))))))))))))))))) rfl rfl rfl ?_
  refine aw_aload_n (j := 0) dX12_init_240 rfl rfl ?_
  refine aw_sipush (v := 3000) dX12_init_241 (by decide) ?_
  refine aw_newa0 (n := n + 24) (kc := 4) (ks := 182) (N := 3000) dX12_init_244 (len_push (len_push (len_push (len_push (len_push (len_push (len_push (len_push (len_push (len_push (len_push (len_push (len_push (len_push (len_push (len_push (len_push (len_push (len_push (len_push (len_push (len_push (len_push (len_push hn)))))))))))))))))))))))) ar_0 (by decide) (by decide +kernel) (by decide +kernel) ?_
  refine aw_putFR (x := n + 24) dX12_init_246 f_X12_95 cl_X12 rfl rfl rfl (at_old (at_old (at_old (at_old (at_old (at_old (at_old (at_old (at_old (at_old (at_old (at_old (at_old (at_old (at_old (at_old (at_old (at_old (at_old (at_old (at_old (at_old (at_old (at_old (at_old hb))))))))))))))))))))))))) rfl rfl rfl ?_
  refine aw_aload_n (j := 0) dX12_init_249 rfl rfl ?_
  refine aw_bipush (v := 36) dX12_init_250 (by decide) ?_
  refine aw_newa0 (n := n + 25) (kc := 3) (ks := 146) (N := 36) dX12_init_252 (len_push (len_push (len_push (len_push (len_push (len_push (len_push (len_push (len_push (len_push (len_push (len_push (len_push (len_push (len_push (len_push (len_push (len_push (len_push (len_push (len_push (len_push (len_push (len_push (len_push hn))))))))))))))))))))))))) ar_0 (by decide) (by decide +kernel) (by decide +kernel) ?_
  refine aw_putFR (x := n + 25) dX12_init_254 f_X12_98 cl_X12 rfl rfl rfl (at_old (at_old (at_old (at_old (at_old (at_old (at_old (at_old (at_old (at_old (at_old (at_old (at_old (at_old (at_old (at_old (at_old (at_old (at_old (at_old (at_old (at_old (at_old (at_old (at_old (at_old hb)))))))))))))))))))))))))) rfl rfl rfl ?_
  refine aw_aload_n (j := 0) dX12_init_257 rfl rfl ?_
  refine aw_sipush (v := 142) dX12_init_258 (by decide) ?_
  refine aw_newa0 (n := n + 26) (kc := 2) (ks := 4) (N := 142) dX12_init_261 (len_push (len_push (len_push (len_push (len_push (len_push (len_push (len_push (len_push (len_push (len_push (len_push (len_push (len_push (len_push (len_push (len_push (len_push (len_push (len_push (len_push (len_push (len_push (len_push (len_push (len_push hn)))))))))))))))))))))))))) ar_0 (by decide) (by decide +kernel) (by decide +kernel) ?_
  refine aw_putFR (x := n + 26) dX12_init_263 f_X12_101 cl_X12 rfl rfl rfl (at_old (at_old (at_old (at_old (at_old (at_old (at_old (at_old (at_old (at_old (at_old (at_old (at_old (at_old (at_old (at_old (at_old (at_old (at_old (at_old (at_old (at_old (at_old (at_old (at_old (at_old (at_old hb))))))))))))))))))))))))))) rfl rfl rfl ?_
  refine aw_aload_n (j := 0) dX12_init_266 rfl rfl ?_
  refine aw_iconst (v := 2) dX12_init_267 (by decide) ?_
  refine aw_newa3 (n := n + 27) (kc := 1) (ks := 2) (N := 2) dX12_init_268 (len_push (len_push (len_push (len_push (len_push (len_push (len_push (len_push (len_push (len_push (len_push (len_push (len_push (len_push (len_push (len_push (len_push (len_push (len_push (len_push (len_push (len_push (len_push (len_push (len_push (len_push (len_push hn))))))))))))))))))))))))))) ar_3 (by decide) (by decide +kernel) (by decide +kernel) ?_
  refine aw_putFR (x := n + 27) dX12_init_270 f_X12_104 cl_X12 rfl rfl rfl (at_old (at_old (at_old (at_old (at_old (at_old (at_old (at_old (at_old (at_old (at_old (at_old (at_old (at_old (at_old (at_old (at_old (at_old (at_old (at_old (at_old (at_old (at_old (at_old (at_old (at_old (at_old (at_old hb)))))))))))))))))))))))))))) rfl rfl rfl ?_
  refine aw_aload_n (j := 0) dX12_init_273 rfl rfl ?_
  refine aw_iconst (v := 2) dX12_init_274 (by decide) ?_
  refine aw_newa0 (n := n + 28) (kc := 0) (ks := 0) (N := 2) dX12_init_275 (len_push (len_push (len_push (len_push (len_push (len_push (len_push (len_push (len_push (len_push (len_push (len_push (len_push (len_push (len_push (len_push (len_push (len_push (len_push (len_push (len_push (len_push (len_push (len_push (len_push (len_push (len_push (len_push hn)))))))))))))))))))))))))))) ar_0 (by decide) (by decide +kernel) (by decide +kernel) ?_
  refine aw_putFR (x := n + 28) dX12_init_277 f_X12_107 cl_X12 rfl rfl rfl (at_old (at_old (at_old (at_old (at_old (at_old (at_old (at_old (at_old (at_old (at_old (at_old (at_old (at_old (at_old (at_old (at_old (at_old (at_old (at_old (at_old (at_old (at_old (at_old (at_old (at_old (at_old (at_old (at_old hb))))))))))))))))))))))))))))) rfl rfl rfl ?_
  exact aw_ret (v := none) rfl (Or.inl ⟨rfl, rfl, dX12_init_280⟩) ⟨rfl, rfl⟩
end
