/-! CALLS: top, quick, best, even, all -/
abbrev InD (n : Nat) (x : Int32) : Prop := 0 ≤ x.toInt ∧ x.toInt < n
/-- the first of which b says yes -/
def fstI (b : Nat → Bool) : Nat → Nat → Option Nat
  | 0, _ => none
  | k + 1, i => if b i = true then some i else fstI b k (i + 1)
def ixA : Option Nat → Int32
  | none => -1
  | some i => nI i
def wyA (S : SSt) : Option Nat → Int32
  | none => -2
  | some i => nI (dS S i)
def skB (S : SSt) (s a : Nat) (x : Int32) (i : Nat) : Bool := !decide (kS S i (4 * s + a) < x)
/-- have all x or more -/
def alB (f : Nat → Int32) (x : Int32) : Nat → Nat → Bool
  | 0, _ => true
  | k + 1, s => if f s < x then false else alB f x k (s + 1)
def stB (v : EV) (p : PSt) (S : SSt) (x : Int32) (i : Nat) : Bool := alB (pwG v (kS S i, p)) x (nE v) 0
/-- the greatest, the least of the first so many; 0 of none -/
def gpA (f : Nat → Int32) : Nat → Int32
  | 0 => 0
  | k + 1 => if k = 0 then f 0 else if f k ≤ gpA f k then gpA f k else f k
def lgA (f : Nat → Int32) : Nat → Int32
  | 0 => 0
  | k + 1 => if k = 0 then f 0 else if lgA f k ≤ f k then lgA f k else f k
def orS (T : Option SSt) (k : SSt → Int32) : Int32 := match T with
  | none => -3
  | some S => k S
theorem fstI_lt {b : Nat → Bool} : ∀ k i j, fstI b k i = some j → i ≤ j ∧ j < i + k := by
  intro k
  induction k with
  | zero => intro i j h; cases h
  | succ k ih =>
    intro i j h
    have h' : (if b i = true then some i else fstI b k (i + 1)) = some j := h
    by_cases c : b i = true
    · rw [if_pos c] at h'
      have := Option.some.inj h'
      omega
    · rw [if_neg c] at h'
      have := ih _ _ h'
      omega
theorem fst_y {b : Nat → Bool} {k i : Nat} (c : b i = true) : fstI b (k + 1) i = some i := if_pos c
theorem fst_n {b : Nat → Bool} {k i : Nat} (c : b i = false) : fstI b (k + 1) i = fstI b k (i + 1) := if_neg (by rw [c]; decide)
section ENC
variable {ad : Nat → Nat} {d t a w b s : Nat} {m m' m0 : Wm} {g : GS} {v : EV} {p : PSt} {S : SSt} {x : Int32}
theorem firstC (hS : SC m S) (hs : s < 8) (ha : a < 4) : Ct ad μX9_firstWith (d + 1) [.ref (ad 151), .int (nI s), .int (nI a), .int x] m (fun r m' => m' = m ∧ r = some (.int (ixA (fstI (skB S s a x) (nS S) 0)))) := by
  have hN := hS.n
  have c4 := hS.c4
  have L : ∀ k i, i + k = nS S → AW ad E0 μX9_firstWith (d + 1) (fun r m' => m' = m ∧ r = some (.int (ixA (fstI (skB S s a x) k i)))) 3 [(0, .ref (ad 151)), (1, .int (nI s)), (2, .int (nI a)), (3, .int x), (4, .int (nI i))] [] m := by
    intro k
    induction k with
    | zero =>
      intro i hi
      obtain rfl : i = nS S := hi
      exact g_X9_firstWith_3 ⟨fun _ => ⟨rfl, rfl⟩, fun c => absurd (by rw [c4]; exact (nI_leI (by omega) (by omega)).mpr (Nat.le_refl _)) c⟩
    | succ k ih =>
      intro i hi
      obtain ⟨a1, a2, a3⟩ := hS.2 i (by omega)
      refine g_X9_firstWith_3 ⟨fun c => absurd (by rw [c4] at c; exact (nI_leI (by omega) (by omega)).mp c) (by omega), fun _ => (getC (d := d) a1 a2 a3 (by omega) hs ha).to ?_⟩
      rintro _ m1 ⟨eq, rfl⟩
      obtain rfl := eq.symm
      refine ⟨_, rfl, fun c => ?_, fun c => ⟨rfl, ?_⟩⟩
      · have e : skB S s a x i = false := by unfold skB; rw [decide_eq_true c]; rfl
        rw [fst_n e, nI_1]
        exact ih (i + 1) (by omega)
      · have e : skB S s a x i = true := by unfold skB; rw [decide_eq_false c]; rfl
        rw [fst_y e]
        rfl
  exact v_X9_firstWith (L (nS S) 0 (by omega))
theorem EJ.n8 (h : EJ v p S m0 m) : nE v ≤ 8 := h.2.2.2.2.2.1.2.2.1
/-- a state's skills brought back -/
theorem unpackE (h : EJ v p S m0 m) {i : Nat} (hi : i < nS S) : Ct ad μX6_unpackAll (d + 2) [.ref (ad 156), .ref (ad 3), .int (nI i)] m (fun r m' => r = none ∧ EJ v p S m0 m' ∧ HC 157 m' (kS S i, p)) := by
  obtain ⟨w0, f0, s0, d0, ⟨f, h0, hz⟩, e0, z0⟩ := h
  have zt := (z0 i hi p).1.1
  refine (unpackAllC (d := d) w0 s0 hi h0 e0.1 e0.2.2.1 (fun k k1 k2 => (hz k k1 k2).trans (zt k k1 k2).symm)).to ?_
  rintro _ m1 ⟨rfl, w1, f1, h1⟩
  exact ⟨rfl, ⟨w1, f0.tr f1 (RS_sub rfl), s0.fx f1 rfl, d0.fx f1 rfl, ⟨_, h1, fun k q1 q2 => zt k q1 q2⟩, e0.fx f1 rfl, z0⟩, h1⟩
theorem EJ.st {R : List Nat} (h : EJ v p S m0 m) (w1 : WT m') (f : Fx (RS R) m m') (e : (R.all fun x => [14].elem x) = true) : EJ v p S m0 m' := by
  obtain ⟨w0, f0, s0, d0, ⟨f', h0, hz⟩, e0, z0⟩ := h
  have f1 : Fx (RS [14]) m m' := (Fx.rf (S := RS [14])).tr f (RS_sub e)
  exact ⟨w1, f0.tr f1 (RS_sub rfl), s0.fx f1 rfl, d0.fx f1 rfl, ⟨f', h0.fx SS_157 f1 rfl, hz⟩, e0.fx f1 rfl, z0⟩
theorem EJ.hc {i : Nat} {R : List Nat} (h : HC 157 m (kS S i, p)) (f : Fx (RS R) m m') (e : R.elem 11 = false) : HC 157 m' (kS S i, p) := h.fx SS_157 f e
theorem EJ.fd (h : EJ v p S m0 m) {i : Nat} (hi : i < nS S) : EJ v p S m0 (uI m 156 6 (nI i)) := by
  obtain ⟨w0, f0, s0, d0, ⟨f', h0, hz⟩, e0, z0⟩ := h
  have hN := s0.n
  have ti : (nI i).toInt = (i : Int) := nI_toInt (by omega)
  have F : Fx (RS [11]) m (uI m 156 6 (nI i)) := Fx.i Fx.rf rfl
  exact ⟨w0.t rfl (by omega) (by omega), f0.tr F (RS_sub rfl), s0.fx F rfl, d0.fx F rfl, ⟨f', h0.o (by omega), hz⟩, e0.fx F rfl, z0⟩
theorem strongC (h : EJ v p S m0 m) : Ct ad μX6_firstStrong (d + 5) [.ref (ad 156), .ref (ad 3), .int x] m (fun r m' => EJ v p S m0 m' ∧ r = some (.int (ixA (fstI (stB v p S x) (nS S) 0)))) := by
  have hN := h.2.2.1.n
  have n8 := h.n8
  have L : ∀ k i (m1 : Wm), i + k = nS S → EJ v p S m0 m1 → AW ad E0 μX6_firstStrong (d + 5) (fun r m' => EJ v p S m0 m' ∧ r = some (.int (ixA (fstI (stB v p S x) k i)))) 2 [(0, .ref (ad 156)), (1, .ref (ad 3)), (2, .int x), (3, .int (nI i))] [] m1 := by
    intro k
    induction k with
    | zero =>
      intro i m1 hi h1
      obtain rfl : i = nS S := hi
      have c4 := h1.2.2.1.c4
      exact g_X6_firstStrong_2 (d := d + 4) ⟨fun _ => ⟨h1, rfl⟩, fun c => absurd (by rw [c4]; exact (nI_leI (by omega) (by omega)).mpr (Nat.le_refl _)) c⟩
    | succ k ih =>
      intro i m1 hi h1
      have c4 := h1.2.2.1.c4
      refine g_X6_firstStrong_2 (d := d + 4) ⟨fun c => absurd (by rw [c4] at c; exact (nI_leI (by omega) (by omega)).mp c) (by omega), fun _ => (unpackE (d := d + 2) h1 (i := i) (by omega)).to ?_⟩
      rintro _ m2 ⟨rfl, h2, c2⟩
      refine ⟨rfl, ?_⟩
      have FIN : ∀ (q : Bool) (m3 : Wm), EJ v p S m0 m3 → stB v p S x i = q → ((((if q = true then (1 : Int32) else 0) = 0 → AW ad E0 μX6_firstStrong (d + 5) (fun r m' => EJ v p S m0 m' ∧ r = some (.int (ixA (fstI (stB v p S x) (k + 1) i)))) 2 [(0, .ref (ad 156)), (1, .ref (ad 3)), (2, .int x), (3, .int (nI i + (1 : Int32)))] [] m3) ∧ (¬ (if q = true then (1 : Int32) else 0) = 0 → EJ v p S m0 m3 ∧ some (Value.int (nI i)) = some (.int (ixA (fstI (stB v p S x) (k + 1) i)))))) := by
        intro q m3 h3 e
        cases q with
        | true => exact ⟨fun c => absurd c (by decide), fun _ => ⟨h3, by rw [fst_y e]; rfl⟩⟩
        | false =>
          refine ⟨fun _ => ?_, fun c => absurd rfl c⟩
          rw [fst_n e, nI_1]
          exact ih (i + 1) m3 (by omega) h3
      have M : ∀ j s (m3 : Wm), s + j = nE v → EJ v p S m0 m3 → HC 157 m3 (kS S i, p) → stB v p S x i = alB (pwG v (kS S i, p)) x j s → AW ad E0 μX6_firstStrong (d + 5) (fun r m' => EJ v p S m0 m' ∧ r = some (.int (ixA (fstI (stB v p S x) (k + 1) i)))) 25 [(0, .ref (ad 156)), (1, .ref (ad 3)), (2, .int x), (3, .int (nI i)), (4, .int (1 : Int32)), (5, .int (nI s))] [] m3 := by
        intro j
        induction j with
        | zero =>
          intro s m3 hs h3 c3 e
          obtain rfl : s = nE v := hs
          have e33 := h3.2.2.2.2.2.1.1
          refine g_X6_firstStrong_25 (d := d + 4) ⟨fun _ => FIN true m3 h3 e, fun c => absurd (by rw [e33]; exact (nI_leI (by omega) (by omega)).mpr (Nat.le_refl _)) c⟩
        | succ j ihj =>
          intro s m3 hs h3 c3 e
          have ec := h3.2.2.2.2.2.1
          have e33 := ec.1
          have e' : stB v p S x i = if pwG v (kS S i, p) s < x then false else alB (pwG v (kS S i, p)) x j (s + 1) := e
          refine g_X6_firstStrong_25 (d := d + 4) ⟨fun c => absurd (by rw [e33] at c; exact (nI_leI (by omega) (by omega)).mp c) (by omega), fun _ => ⟨fun c => absurd c (by decide), fun _ => (powCb (d := d) SS_157 G11 h3.1 c3 ec (s := s) (by omega)).to ?_⟩⟩
          rintro _ m4 ⟨w4, f4, rfl⟩
          have h4 := h3.st w4 f4 rfl
          have c4' : HC 157 m4 (kS S i, p) := c3.fx SS_157 f4 rfl
          refine ⟨_, rfl, fun c => ?_, fun c => ?_⟩
          · rw [if_pos c] at e'
            have F := FIN false m4 h4 e'
            exact g_X6_firstStrong_25 (d := d + 4) ⟨fun _ => F, fun _ => ⟨fun _ => F, fun z => absurd rfl z⟩⟩
          · rw [if_neg c] at e'
            rw [nI_1]
            exact ihj (s + 1) m4 (by omega) h4 c4' e'
      exact M (nE v) 0 m2 (by omega) h2 c2 rfl
  exact v_X6_firstStrong (d := d + 4) (L (nS S) 0 m (by omega) h)
theorem gpA_0 {f : Nat → Int32} {k : Nat} (h : k = 0) : gpA f (k + 1) = f k := by subst h; rfl
theorem gpA_p {f : Nat → Int32} {k : Nat} (h : ¬ k = 0) (c : f k ≤ gpA f k) : gpA f (k + 1) = gpA f k := (if_neg h).trans (if_pos c)
theorem gpA_n {f : Nat → Int32} {k : Nat} (h : ¬ k = 0) (c : ¬ f k ≤ gpA f k) : gpA f (k + 1) = f k := (if_neg h).trans (if_neg c)
theorem lgA_0 {f : Nat → Int32} {k : Nat} (h : k = 0) : lgA f (k + 1) = f k := by subst h; rfl
theorem lgA_p {f : Nat → Int32} {k : Nat} (h : ¬ k = 0) (c : lgA f k ≤ f k) : lgA f (k + 1) = lgA f k := (if_neg h).trans (if_pos c)
theorem lgA_n {f : Nat → Int32} {k : Nat} (h : ¬ k = 0) (c : ¬ lgA f k ≤ f k) : lgA f (k + 1) = f k := (if_neg h).trans (if_neg c)
theorem greatC (h : EJ v p S m0 m) (hs : s < 8) : Ct ad μX6_greatestPower (d + 5) [.ref (ad 156), .ref (ad 3), .int (nI s)] m (fun r m' => EJ v p S m0 m' ∧ r = some (.int (gpA (fun i => pwG v (kS S i, p) s) (nS S)))) := by
  have hN := h.2.2.1.n
  have L : ∀ k i (m1 : Wm), i + k = nS S → EJ v p S m0 m1 → AW ad E0 μX6_greatestPower (d + 5) (fun r m' => EJ v p S m0 m' ∧ r = some (.int (gpA (fun i => pwG v (kS S i, p) s) (nS S)))) 5 [(0, .ref (ad 156)), (1, .ref (ad 3)), (2, .int (nI s)), (3, .int (gpA (fun i => pwG v (kS S i, p) s) i)), (4, .int (nI i))] [] m1 := by
    intro k
    induction k with
    | zero =>
      intro i m1 hi h1
      obtain rfl : i = nS S := hi
      have c4 := h1.2.2.1.c4
      exact g_X6_greatestPower_5 (d := d + 4) ⟨fun _ => ⟨h1, rfl⟩, fun c => absurd (by rw [c4]; exact (nI_leI (by omega) (by omega)).mpr (Nat.le_refl _)) c⟩
    | succ k ih =>
      intro i m1 hi h1
      have c4 := h1.2.2.1.c4
      refine g_X6_greatestPower_5 (d := d + 4) ⟨fun c => absurd (by rw [c4] at c; exact (nI_leI (by omega) (by omega)).mp c) (by omega), fun _ => (unpackE (d := d + 2) h1 (i := i) (by omega)).to ?_⟩
      rintro _ m2 ⟨rfl, h2, c2⟩
      refine ⟨rfl, (powCb (d := d) SS_157 G11 h2.1 c2 h2.2.2.2.2.2.1 hs).to ?_⟩
      rintro _ m3 ⟨w3, f3, rfl⟩
      have h3 := h2.st w3 f3 rfl
      have J : gpA (fun i => pwG v (kS S i, p) s) (i + 1) = pwG v (kS S i, p) s → AW ad E0 μX6_greatestPower (d + 5) (fun r m' => EJ v p S m0 m' ∧ r = some (.int (gpA (fun i => pwG v (kS S i, p) s) (nS S)))) 46 [(0, .ref (ad 156)), (1, .ref (ad 3)), (2, .int (nI s)), (4, .int (nI i)), (5, .int (pwG v (kS S i, p) s))] [] m3 := fun e => by
        refine g_X6_greatestPower_46 (d := d + 4) ?_
        rw [nI_1, ← e]
        exact ih (i + 1) _ (by omega) (h3.fd (by omega))
      refine ⟨_, rfl, fun c => J (gpA_0 ((nI_eq (a := i) (b := 0) (by omega) (by decide)).mp c)), fun c => ?_⟩
      have hi0 : ¬ i = 0 := fun z => c (by rw [z]; rfl)
      refine ⟨fun c2 => ?_, fun c2 => J (gpA_n hi0 c2)⟩
      rw [nI_1]
      have := ih (i + 1) m3 (by omega) h3
      rw [gpA_p (f := fun i => pwG v (kS S i, p) s) hi0 c2] at this
      exact this
  exact v_X6_greatestPower (d := d + 4) (L (nS S) 0 m (by omega) h)
theorem gapC (h : EJ v p S m0 m) (hn0 : 0 < nE v) : Ct ad μX6_leastGap (d + 6) [.ref (ad 156), .ref (ad 3)] m (fun r m' => EJ v p S m0 m' ∧ r = some (.int (lgA (fun i => sprA v (kS S i, p)) (nS S)))) := by
  have hN := h.2.2.1.n
  have n8 := h.n8
  have L : ∀ k i (m1 : Wm), i + k = nS S → EJ v p S m0 m1 → AW ad E0 μX6_leastGap (d + 6) (fun r m' => EJ v p S m0 m' ∧ r = some (.int (lgA (fun i => sprA v (kS S i, p)) (nS S)))) 4 [(0, .ref (ad 156)), (1, .ref (ad 3)), (2, .int (lgA (fun i => sprA v (kS S i, p)) i)), (3, .int (nI i))] [] m1 := by
    intro k
    induction k with
    | zero =>
      intro i m1 hi h1
      obtain rfl : i = nS S := hi
      have c4 := h1.2.2.1.c4
      exact g_X6_leastGap_4 (d := d + 5) ⟨fun _ => ⟨h1, rfl⟩, fun c => absurd (by rw [c4]; exact (nI_leI (by omega) (by omega)).mpr (Nat.le_refl _)) c⟩
    | succ k ih =>
      intro i m1 hi h1
      have c4 := h1.2.2.1.c4
      have ea : sprA v (kS S i, p) = pwG v (kS S i, p) (bsF (pwG v (kS S i, p)) (nE v)) - pwG v (kS S i, p) (wkF (pwG v (kS S i, p)) (nE v)) := if_neg (by omega)
      have hb := bsF_lt (f := pwG v (kS S i, p)) hn0 (nE v) (Nat.le_refl _)
      have hw := wkF_lt (f := pwG v (kS S i, p)) hn0 (nE v) (Nat.le_refl _)
      refine g_X6_leastGap_4 (d := d + 5) ⟨fun c => absurd (by rw [c4] at c; exact (nI_leI (by omega) (by omega)).mp c) (by omega), fun _ => (unpackE (d := d + 3) h1 (i := i) (by omega)).to ?_⟩
      rintro _ m2 ⟨rfl, h2, c2⟩
      refine ⟨rfl, (strCb (d := d) SS_157 G11 h2.1 c2 h2.2.2.2.2.2.1 hn0).to ?_⟩
      rintro _ m3 ⟨w3, f3, rfl⟩
      have h3 := h2.st w3 f3 rfl
      have c3 := EJ.hc c2 f3 rfl
      refine ⟨_, rfl, (powCb (d := d + 1) SS_157 G11 h3.1 c3 h3.2.2.2.2.2.1 (s := bsF (pwG v (kS S i, p)) (nE v)) (by omega)).to ?_⟩
      rintro _ m4 ⟨w4, f4, rfl⟩
      have h4 := h3.st w4 f4 rfl
      have c4' := EJ.hc c3 f4 rfl
      refine ⟨_, rfl, (weaCb (d := d) SS_157 G11 h4.1 c4' h4.2.2.2.2.2.1 hn0).to ?_⟩
      rintro _ m5 ⟨w5, f5, rfl⟩
      have h5 := h4.st w5 f5 rfl
      have c5 := EJ.hc c4' f5 rfl
      refine ⟨_, rfl, (powCb (d := d + 1) SS_157 G11 h5.1 c5 h5.2.2.2.2.2.1 (s := wkF (pwG v (kS S i, p)) (nE v)) (by omega)).to ?_⟩
      rintro _ m6 ⟨w6, f6, rfl⟩
      have h6 := h5.st w6 f6 rfl
      refine ⟨_, rfl, ?_⟩
      rw [← ea]
      have J : lgA (fun i => sprA v (kS S i, p)) (i + 1) = sprA v (kS S i, p) → AW ad E0 μX6_leastGap (d + 6) (fun r m' => EJ v p S m0 m' ∧ r = some (.int (lgA (fun i => sprA v (kS S i, p)) (nS S)))) 66 [(0, .ref (ad 156)), (1, .ref (ad 3)), (3, .int (nI i)), (4, .int (sprA v (kS S i, p)))] [] m6 := fun e => by
        refine g_X6_leastGap_66 (d := d + 5) ?_
        rw [nI_1, ← e]
        exact ih (i + 1) _ (by omega) (h6.fd (by omega))
      refine ⟨fun c => J (lgA_0 ((nI_eq (a := i) (b := 0) (by omega) (by decide)).mp c)), fun c => ?_⟩
      have hi0 : ¬ i = 0 := fun z => c (by rw [z]; rfl)
      refine ⟨fun c2 => ?_, fun c2 => J (lgA_n hi0 c2)⟩
      rw [nI_1]
      have := ih (i + 1) m6 (by omega) h6
      rw [lgA_p (f := fun i => sprA v (kS S i, p)) hi0 c2] at this
      exact this
  exact v_X6_leastGap (d := d + 5) (L (nS S) 0 m (by omega) h)
/-! the calls, the class's side -/
def ECR : List Nat := [2, 9, 10, 11, 14, 58]
/-- what a search leaves behind -/
def eQ (m : Wm) (x : Int32) (r : Option Value) (m' : Wm) : Prop := WT m' ∧ Fx (RS [2, 9, 10, 11, 14, 58]) m m' ∧ SWx m' ∧ r = some (.int x)
theorem NJ.q (h : NJ m0 m) {T : Option SSt} {k : SSt → Int32} (e : T = none) : eQ m0 (orS T k) (some (.int (-3))) m := by
  subst e
  exact ⟨h.1, (Fx.rf (S := RS [2, 9, 10, 11, 14, 58])).tr h.2.1 (RS_sub rfl), h.2.2, rfl⟩
theorem EJ.q (h : EJ v p S m0 m) {T : Option SSt} {k : SSt → Int32} (e : T = some S) {y : Int32} (hy : y = k S) {R : List Nat} (w1 : WT m') (f : Fx (RS R) m m') (e1 : (R.all fun x => ([2, 9, 10, 11, 14, 58] : List Nat).elem x) = true) (e2 : R.elem 10 = false) : eQ m0 (orS T k) (some (.int y)) m' := by
  subst e
  subst hy
  exact ⟨w1, ((Fx.rf (S := RS [2, 9, 10, 11, 14, 58])).tr h.2.1 (RS_sub rfl)).tr f (RS_sub e1), h.2.2.1.sw.fx f e2, rfl⟩
theorem tellC (h : EJ v p S m0 m) {o : Option Nat} (ho : ∀ i, o = some i → i < nS S) : Ct ad μX11_tellWayTo (d + 1) [.ref (ad 0), .int (ixA o)] m (fun r m' => WT m' ∧ Fx (RS [9]) m m' ∧ r = some (.int (wyA S o))) := by
  have hN := h.2.2.1.n
  cases o with
  | none => exact v_X11_tellWayTo ⟨fun c => absurd c (by decide), fun _ => ⟨h.1, Fx.rf, rfl⟩⟩
  | some i =>
    have hi := ho i rfl
    obtain ⟨e65, dl⟩ := h.2.2.2.1 i hi
    have ti : (nI i).toInt = (i : Int) := nI_toInt (by omega)
    have td : (nI (dS S i)).toInt = (dS S i : Int) := nI_toInt (by omega)
    have z10 : (10 : Int32).toInt = 10 := rfl
    have V : vp_in (nI i) 3000 := nat_in (by omega) (by decide)
    refine v_X11_tellWayTo ⟨fun _ => (s_X6_fillWay (d := d) (x1 := nI i) h.1 (by omega) (by omega)).to ?_, fun c => absurd ((le_l 0 0 rfl (by decide) (by omega)).mpr (Nat.zero_le _)) c⟩
    rintro _ m1 ⟨w1, f1, rfl⟩
    have e1 : m1.1 165 i = nI (dS S i) := (f1.at (nRS (ρ := 58) rfl rfl)).trans e65
    refine ⟨rfl, V, V, ?_⟩
    show WT (uI m1 0 18 (if (10 : Int32) < (m1.1 165 (nI i).toNatClampNeg) then (10 : Int32) else (m1.1 165 (nI i).toNatClampNeg))) ∧ Fx (RS [9]) m (uI m1 0 18 (if (10 : Int32) < (m1.1 165 (nI i).toNatClampNeg) then (10 : Int32) else (m1.1 165 (nI i).toNatClampNeg))) ∧ some (Value.int (m1.1 165 (nI i).toNatClampNeg)) = some (.int (nI (dS S i)))
    rw [nI_clamp (by omega), e1]
    refine ⟨w1.t rfl ?_ ?_, f1.i rfl, rfl⟩
    · split <;> omega
    · split
      · omega
      · have := z_nlt ‹_›
        omega
def topA (v : EV) (x1 x2 x3 : Int32) (g : GS) : Int32 := if InD (nE v) x1 ∧ InD (aE v) x2 ∧ 0 ≤ x3.toInt ∧ x3.toInt ≤ 7 then orS (srG v g 3000) (fun S => wyA S (fstI (skB S x1.toNatClampNeg x2.toNatClampNeg x3) (nS S) 0)) else -1
def quickA (v : EV) (x1 : Int32) (g : GS) : Int32 := orS (srG v g 3000) (fun S => wyA S (fstI (stB v g.2 S x1) (nS S) 0))
def bestA (v : EV) (x1 x2 : Int32) (g : GS) : Int32 := if InD (nE v) x1 ∧ 0 ≤ x2.toInt ∧ x2.toInt ≤ 9 then orS (srG v g x2.toNatClampNeg) (fun S => gpA (fun i => pwG v (kS S i, g.2) x1.toNatClampNeg) (nS S)) else -1
def evenA (v : EV) (x1 : Int32) (g : GS) : Int32 := if (0 ≤ x1.toInt ∧ x1.toInt ≤ 9) ∧ ¬ nE v = 0 then orS (srG v g x1.toNatClampNeg) (fun S => lgA (fun i => sprA v (kS S i, g.2)) (nS S)) else -1
def allA (v : EV) (g : GS) : Int32 := orS (srG v g 3000) (fun S => nI (nS S))
theorem fst_in {b : Nat → Bool} : ∀ i, fstI b (nS S) 0 = some i → i < nS S := fun i h => by have := fstI_lt _ _ _ h; omega
theorem e3000 : (3000 : Int32) = nI 3000 := rfl
theorem nj_q {x : Int32} (w : WT m) (h : SWx m) : eQ m x (some (.int x)) m := ⟨w, Fx.rf, h, rfl⟩
theorem nj_e {x y : Int32} (w : WT m) (h : SWx m) (e : x = y) : eQ m x (some (.int y)) m := e ▸ nj_q w h
theorem e_topC {x1 x2 x3 : Int32} (w0 : WT m) (hW : SWx m) (hc : HC 21 m g) (hE : EC m v) (hz : ZB v g) : Ct ad μX11_top (d + 7) [.ref (ad 0), .int x1, .int x2, .int x3] m (eQ m (topA v x1 x2 x3 g)) := by
  have n8 := hE.2.2.1
  have no : ¬ (InD (nE v) x1 ∧ InD (aE v) x2 ∧ 0 ≤ x3.toInt ∧ x3.toInt ≤ 7) → eQ m (topA v x1 x2 x3 g) (some (.int (-1))) m := fun z => nj_e w0 hW (if_neg z)
  refine v_X11_top (d := d + 6) ((hasC (d := d + 6) (x := x1) hE.1 n8).to ?_)
  rintro _ m1 ⟨eq, v1, rfl, y1, y2⟩
  obtain rfl := eq.symm
  refine ⟨v1, rfl, fun c => no (fun z => y1 c z.1), fun c => (knowsC (d := d + 6) (x := x2) hE.2.1 (by have := hE.2.2.2.1; omega)).to ?_⟩
  rintro _ m1 ⟨eq, v2, rfl, y3, y4⟩
  obtain rfl := eq.symm
  refine ⟨v2, rfl, fun c => no (fun z => y3 c z.2.1), fun c2 => ⟨fun c3 => no (fun z => ?_), fun c3 => ⟨fun c4 => ?_, fun c4 => no (fun z => ?_)⟩⟩⟩
  · have := y_ltr (n := 0) rfl c3
    have := z.2.2.1
    omega
  · have h1 := y2 c
    have h2 := y4 c2
    have k3 := y_nltr (n := 0) rfl c3
    have k4 := y_ler (n := 7) rfl c4
    obtain ⟨s, hs, rfl⟩ := h1.of
    obtain ⟨a, ha, rfl⟩ := h2.of
    have h4 := hE.2.2.2.1
    have eA : topA v (nI s) (nI a) x3 g = orS (srG v g 3000) (fun S => wyA S (fstI (skB S s a x3) (nS S) 0)) := by
      unfold topA
      rw [if_pos ⟨h1, h2, k3, k4⟩, nI_clamp (by omega), nI_clamp (by omega)]
    rw [eA, e3000]
    refine (exploreC (d := d) w0 hW hc hE hz (wi := 3000) (by decide)).to ?_
    rintro r m2 (⟨S, e, rfl, h⟩ | ⟨e, rfl, h⟩)
    · refine ⟨1, rfl, fun _ => (firstC (d := d + 5) (x := x3) h.2.2.1 (s := s) (a := a) (by omega) (by omega)).to ?_, fun q => absurd q (by decide)⟩
      rintro _ m3 ⟨eq, rfl⟩
      obtain rfl := eq.symm
      refine ⟨_, rfl, (tellC (d := d + 5) h (o := fstI (skB S s a x3) (nS S) 0) fst_in).to ?_⟩
      rintro _ m4 ⟨w4, f4, rfl⟩
      exact ⟨_, rfl, h.q e rfl w4 f4 rfl rfl⟩
    · exact ⟨0, rfl, fun q => absurd rfl q, fun _ => h.q e⟩
  · have := y_nler (n := 7) rfl c4
    have := z.2.2.2
    omega
theorem e_quickC {x1 : Int32} (w0 : WT m) (hW : SWx m) (hc : HC 21 m g) (hE : EC m v) (hz : ZB v g) : Ct ad μX11_quick (d + 7) [.ref (ad 0), .int x1] m (eQ m (quickA v x1 g)) := by
  refine v_X11_quick (d := d + 6) ?_
  rw [e3000]
  refine (exploreC (d := d) w0 hW hc hE hz (wi := 3000) (by decide)).to ?_
  rintro r m2 (⟨S, e, rfl, h⟩ | ⟨e, rfl, h⟩)
  · refine ⟨1, rfl, fun _ => (strongC (d := d + 1) (x := x1) h).to ?_, fun q => absurd q (by decide)⟩
    rintro _ m3 ⟨h3, rfl⟩
    refine ⟨_, rfl, (tellC (d := d + 5) h3 (o := fstI (stB v g.2 S x1) (nS S) 0) fst_in).to ?_⟩
    rintro _ m4 ⟨w4, f4, rfl⟩
    exact ⟨_, rfl, h3.q e rfl w4 f4 rfl rfl⟩
  · exact ⟨0, rfl, fun q => absurd rfl q, fun _ => h.q e⟩
theorem e_bestC {x1 x2 : Int32} (w0 : WT m) (hW : SWx m) (hc : HC 21 m g) (hE : EC m v) (hz : ZB v g) : Ct ad μX11_best (d + 7) [.ref (ad 0), .int x1, .int x2] m (eQ m (bestA v x1 x2 g)) := by
  have n8 := hE.2.2.1
  have no : ¬ (InD (nE v) x1 ∧ 0 ≤ x2.toInt ∧ x2.toInt ≤ 9) → eQ m (bestA v x1 x2 g) (some (.int (-1))) m := fun z => nj_e w0 hW (if_neg z)
  refine v_X11_best (d := d + 6) ((hasC (d := d + 6) (x := x1) hE.1 n8).to ?_)
  rintro _ m1 ⟨eq, v1, rfl, y1, y2⟩
  obtain rfl := eq.symm
  refine ⟨v1, rfl, fun c => no (fun z => y1 c z.1), fun c => ⟨fun c3 => no (fun z => ?_), fun c3 => ⟨fun c4 => ?_, fun c4 => no (fun z => ?_)⟩⟩⟩
  · have := y_ltr (n := 0) rfl c3
    have := z.2.1
    omega
  · have h1 := y2 c
    have k3 := y_nltr (n := 0) rfl c3
    have k4 := y_ler (n := 9) rfl c4
    obtain ⟨s, hs, rfl⟩ := h1.of
    obtain ⟨n, hn, rfl⟩ := zn_of k3
    rw [nI_toInt hn] at k4
    have eA : bestA v (nI s) (nI n) g = orS (srG v g n) (fun S => gpA (fun i => pwG v (kS S i, g.2) s) (nS S)) := by
      unfold bestA
      rw [if_pos ⟨h1, by rw [nI_toInt hn]; omega, by rw [nI_toInt hn]; omega⟩, nI_clamp (n := n) hn, nI_clamp (n := s) (by omega)]
    rw [eA]
    refine (exploreC (d := d) w0 hW hc hE hz (wi := n) (by omega)).to ?_
    rintro r m2 (⟨S, e, rfl, h⟩ | ⟨e, rfl, h⟩)
    · refine ⟨1, rfl, fun _ => (greatC (d := d + 1) h (s := s) (by omega)).to ?_, fun q => absurd q (by decide)⟩
      rintro _ m3 ⟨h3, rfl⟩
      have t6 := h3.1.at (a := 156) (k := 6) rfl
      refine ⟨_, rfl, vpi (by omega) (by omega), (s_X11_tell h3.1).to ?_⟩
      rintro _ m4 ⟨w4, f4, rfl⟩
      exact ⟨rfl, h3.q e rfl w4 f4 rfl rfl⟩
    · exact ⟨0, rfl, fun q => absurd rfl q, fun _ => h.q e⟩
  · have := y_nler (n := 9) rfl c4
    have := z.2.2
    omega
theorem e_evenC {x1 : Int32} (w0 : WT m) (hW : SWx m) (hc : HC 21 m g) (hE : EC m v) (hz : ZB v g) : Ct ad μX11_even (d + 7) [.ref (ad 0), .int x1] m (eQ m (evenA v x1 g)) := by
  have n8 := hE.2.2.1
  have no : ¬ ((0 ≤ x1.toInt ∧ x1.toInt ≤ 9) ∧ ¬ nE v = 0) → eQ m (evenA v x1 g) (some (.int (-1))) m := fun z => nj_e w0 hW (if_neg z)
  refine v_X11_even (d := d + 6) ⟨fun c3 => no (fun z => ?_), fun c3 => ⟨fun c4 => no (fun z => ?_), fun c4 => ⟨fun c5 => ?_, fun c5 => no (fun z => ?_)⟩⟩⟩
  · have := y_ltr (n := 0) rfl c3
    have := z.1.1
    omega
  · have := y_ltl (n := 9) rfl c4
    have := z.1.2
    omega
  · have k3 := y_nltr (n := 0) rfl c3
    have k4 := y_nltl (n := 9) rfl c4
    have hn0 : ¬ nE v = 0 := fun z => c5 (by rw [hE.1, z]; rfl)
    obtain ⟨n, hn, rfl⟩ := zn_of k3
    rw [nI_toInt hn] at k4
    have eA : evenA v (nI n) g = orS (srG v g n) (fun S => lgA (fun i => sprA v (kS S i, g.2)) (nS S)) := by
      unfold evenA
      rw [if_pos ⟨⟨by rw [nI_toInt hn]; omega, by rw [nI_toInt hn]; omega⟩, hn0⟩, nI_clamp hn]
    rw [eA]
    refine (exploreC (d := d) w0 hW hc hE hz (wi := n) (by omega)).to ?_
    rintro r m2 (⟨S, e, rfl, h⟩ | ⟨e, rfl, h⟩)
    · refine ⟨1, rfl, fun _ => (gapC (d := d) h (by omega)).to ?_, fun q => absurd q (by decide)⟩
      rintro _ m3 ⟨h3, rfl⟩
      have t6 := h3.1.at (a := 156) (k := 6) rfl
      refine ⟨_, rfl, vpi (by omega) (by omega), (s_X11_tell h3.1).to ?_⟩
      rintro _ m4 ⟨w4, f4, rfl⟩
      exact ⟨rfl, h3.q e rfl w4 f4 rfl rfl⟩
    · exact ⟨0, rfl, fun q => absurd rfl q, fun _ => h.q e⟩
  · exact z.2 ((nI_eq (a := nE v) (b := 0) (by omega) (by decide)).mp (hE.1.symm.trans c5))
theorem e_allC (w0 : WT m) (hW : SWx m) (hc : HC 21 m g) (hE : EC m v) (hz : ZB v g) : Ct ad μX11_all (d + 7) [.ref (ad 0)] m (eQ m (allA v g)) := by
  refine v_X11_all (d := d + 6) ?_
  rw [e3000]
  refine (exploreC (d := d) w0 hW hc hE hz (wi := 3000) (by decide)).to ?_
  rintro r m2 (⟨S, e, rfl, h⟩ | ⟨e, rfl, h⟩)
  · refine ⟨1, rfl, fun _ => ?_, fun q => absurd q (by decide)⟩
    have hN := h.2.2.1.n
    have L : ∀ k i (m1 : Wm) (x1 x2 x3 : Int32), i + k = nS S → WT m1 → Fx (RS []) m2 m1 → AW ad E0 μX11_all (d + 7) (eQ m (allA v g)) 35 [(0, .ref (ad 0)), (1, .int x1), (2, .int x2), (3, .int x3), (4, .int (nI i))] [] m1 := by
      intro k
      induction k with
      | zero =>
        intro i m1 x1 x2 x3 hi w1 f1
        obtain rfl : i = nS S := hi
        have c4 : m1.1 151 4 = nI (nS S) := (f1.at (nRS (ρ := 10) rfl rfl)).trans h.2.2.1.c4
        refine g_X11_all_35 (d := d + 6) ⟨fun _ => (s_X11_tell__ w1).to ?_, fun c => absurd (by rw [c4]; exact (nI_leI (by omega) (by omega)).mpr (Nat.le_refl _)) c⟩
        rintro _ m3 ⟨w3, f3, rfl⟩
        have e4 : m3.1 151 4 = nI (nS S) := (f3.at (nRS (ρ := 10) rfl rfl)).trans c4
        refine ⟨rfl, ?_⟩
        rw [e4]
        exact h.q e rfl w3 ((Fx.rf (S := RS [9])).tr f1 (RS_sub rfl) |>.tr f3 (RS_sub rfl)) rfl rfl
      | succ k ih =>
        intro i m1 x1 x2 x3 hi w1 f1
        have c4 : m1.1 151 4 = nI (nS S) := (f1.at (nRS (ρ := 10) rfl rfl)).trans h.2.2.1.c4
        have ti : (nI i).toInt = (i : Int) := nI_toInt (by omega)
        refine g_X11_all_35 (d := d + 6) ⟨fun c => absurd (by rw [c4] at c; exact (nI_leI (by omega) (by omega)).mp c) (by omega), fun _ => (s_X9_total w1 (by omega) (by omega)).to ?_⟩
        rintro _ m3 ⟨w3, f3, v3, rfl⟩
        refine ⟨v3, rfl, nat_in (by omega) (by decide), ?_⟩
        rw [nI_1]
        exact ih (i + 1) m3 _ _ _ (by omega) w3 (f1.tr f3 (RS_sub rfl))
    exact L (nS S) 0 m2 _ _ _ (by omega) h.1 Fx.rf
  · exact ⟨0, rfl, fun q => absurd rfl q, fun _ => h.q e⟩
end ENC
section ENM
variable {ad : Nat → Nat} {d t a w b s : Nat} {m m' m0 : Wm} {g : GS} {v : EV} {p : PSt} {S : SSt} {x : Int32}
theorem tellWayX {d : Nat} {x1 : Int32} (w : WT m) (s : ST m) (i1 : 0 ≤ x1.toInt) (i2 : x1.toInt < (m.1 187 43).toInt) : Ct ad μX12_tellWay (d + 1) [.ref (ad 187), .int x1] m (fun r m' => WT m' ∧ Fx (RS [26, 38]) m m' ∧ r = some (.int (m.1 207 x1.toNatClampNeg))) := by
  have z0 : (0 : Int32).toInt = 0 := rfl
  have zn1 : (-1 : Int32).toInt = -1 := rfl
  have L2 : ∀ n : Nat, ∀ (m1 : Wm) (x2 : Int32) (k : Nat), k + n = 10 → WT m1 → Fx (RS [26, 38]) m m1 → (m1.1 187 16).toInt = (k : Int) → AW ad E0 μX12_tellWay (d + 1) (fun r m' => WT m' ∧ Fx (RS [26, 38]) m m' ∧ r = some (.int x2)) 53 [(0, .ref (ad 187)), (2, .int x2), (4, .int (nI k))] [] m1 := by
    intro n
    induction n with
    | zero =>
      intro m1 x2 k hk w1 f1 e1
      exact g_X12_tellWay_53 ⟨fun _ => ⟨w1, f1, rfl⟩, fun _ => ⟨fun _ => ⟨w1, f1, rfl⟩, fun c => absurd ((le_l 10 10 rfl (by omega) (by omega)).mpr (by omega)) c⟩⟩
    | succ n ih =>
      intro m1 x2 k hk w1 f1 e1
      refine g_X12_tellWay_53 ⟨fun _ => ⟨w1, f1, rfl⟩, fun _ => ⟨fun _ => ⟨w1, f1, rfl⟩, fun c => ⟨nat_in (by omega) (by decide), (s_X12_tell w1 (by omega)).to ?_⟩⟩⟩
      rintro _ m2 ⟨w2, f2, rfl, p2⟩
      refine ⟨rfl, ?_⟩
      rw [nI_1]
      exact ih m2 x2 (k + 1) (by omega) w2 (f1.tr f2 (RS_sub rfl)) (by omega)
  have L1 : ∀ j : Nat, ∀ (m1 : Wm) (x2 x3 x4 : Int32), x4.toInt = (j : Int) - 1 → j ≤ 3000 → WT m1 → Fx (RS [26, 38]) m m1 → ST m1 → (0 < j → 0 ≤ x3.toInt ∧ x3.toInt < (m1.1 187 43).toInt ∧ (m1.1 207 x3.toNatClampNeg).toInt = (j : Int)) → AW ad E0 μX12_tellWay (d + 1) (fun r m' => WT m' ∧ Fx (RS [26, 38]) m m' ∧ r = some (.int x2)) 14 [(0, .ref (ad 187)), (2, .int x2), (3, .int x3), (4, .int x4)] [] m1 := by
    intro j
    induction j with
    | zero =>
      intro m1 x2 x3 x4 e4 hj w1 f1 s1 h
      refine g_X12_tellWay_14 ⟨fun _ => ?_, fun c => absurd (z_nlt c) (by omega)⟩
      exact L2 10 _ x2 0 (by decide) (w1.t rfl (by decide) (by decide)) (f1.i rfl) rfl
    | succ j ih =>
      intro m1 x2 x3 x4 e4 hj w1 f1 s1 h
      have t43 := w1.at (a := 187) (k := 43) rfl
      obtain ⟨h1, h2, h3⟩ := h (by omega)
      refine g_X12_tellWay_14 ⟨fun c => absurd (z_lt c) (by omega), fun _ => ?_⟩
      refine ⟨vpi (by omega) (by omega), vpi (by omega) (by omega), vpi (by omega) (by omega), ?_⟩
      obtain ⟨k, hk, rfl⟩ := zn_of h1
      rw [nI_clamp hk] at h3 ⊢
      rw [nI_toInt hk] at h1 h2
      have w2 : WT (uI m1 212 x4.toNatClampNeg (m1.1 209 k)) := w1.n rfl
      have s2 : ST (uI m1 212 x4.toNatClampNeg (m1.1 209 k)) := s1.fx (S := [38]) ((Fx.rf (m := m1)).i rfl) rfl
      rcases s1.2.2 k h2 with q | ⟨p, q1, q2, q3⟩
      · omega
      · refine ih _ _ _ _ ?_ (by omega) w2 (f1.i rfl) s2 (fun hj0 => ?_)
        · rw [ti_addc (c := -1) zn1 (by omega)]
          omega
        · show 0 ≤ (m1.1 208 k).toInt ∧ (m1.1 208 k).toInt < (m1.1 187 43).toInt ∧ (m1.1 207 (m1.1 208 k).toNatClampNeg).toInt = _
          rw [q1, nI_clamp (by omega), nI_toInt (by omega)]
          omega
  have t43 := w.at (a := 187) (k := 43) rfl
  refine v_X12_tellWay ⟨vpi (by omega) (by omega), ?_⟩
  obtain ⟨k, hk, rfl⟩ := zn_of i1
  rw [nI_clamp hk]
  rw [nI_toInt hk] at i1 i2
  have t207 := w.at (a := 207) (k := k) (lo := 0) (hi := (k : Int)) rfl
  have t1 := ti_subc (x := m.1 207 k) (y := 1) (c := 1) rfl (by omega)
  refine L1 (m.1 207 k).toInt.toNat m _ _ _ (by omega) (by omega) w Fx.rf s (fun hj => ?_)
  rw [nI_clamp hk, nI_toInt hk]
  omega
/-- between two states looked at; what lies aside is the league -/
def MV (v : EV) (g : GS) (S : SSt) (m0 m : Wm) : Prop := WT m ∧ Fx (RS [20, 22, 24, 26, 28, 33, 34, 35, 38, 49]) m0 m ∧ ST m ∧ SM m S ∧ HL (nE v) 204 0 m g ∧ EM m v ∧ ZI v S
def mQ (v : EV) (g : GS) (m : Wm) (x : Int32) (r : Option Value) (m' : Wm) : Prop := WT m' ∧ Fx (RS [20, 22, 24, 26, 28, 33, 34, 35, 38, 49]) m m' ∧ HM (nE v) m' g ∧ r = some (.int x)
theorem MV.st {R : List Nat} (h : MV v g S m0 m) (w1 : WT m') (f : Fx (RS R) m m') (e : (R.all fun x => ([20, 22, 24, 26, 28, 33, 38, 49] : List Nat).elem x) = true) : MV v g S m0 m' := by
  obtain ⟨w0, f0, s0, d0, l0, e0, z0⟩ := h
  have f1 : Fx (RS [20, 22, 24, 26, 28, 33, 38, 49]) m m' := (Fx.rf (S := RS [20, 22, 24, 26, 28, 33, 38, 49])).tr f (RS_sub e)
  exact ⟨w1, f0.tr f1 (RS_sub rfl), s0.fx f1 rfl, d0.fx f1 rfl, l0.fx f1 (fun _ => rfl) rfl, e0.fx f1 rfl, z0⟩
/-- a state's skills, with points and raised as they are -/
theorem loadV (h : MV v g S m0 m) (hp : ∃ f, HX (nE v) m (f, g.2)) {i : Nat} (hi : i < nS S) : Ct ad μX12_load d [.ref (ad 187), .int (nI i)] m (fun r m' => r = none ∧ MV v g S m0 m' ∧ HX (nE v) m' (kS S i, g.2)) := by
  obtain ⟨a1, a2, a3⟩ := h.2.2.2.1.2.1 i hi
  have hN := h.2.2.2.1.n
  obtain ⟨f, hx⟩ := hp
  refine (loadM (d := d) h.1 a1 a2 a3 (by omega)).to ?_
  rintro _ m2 ⟨rfl, w2, f2, o2, c2⟩
  exact ⟨rfl, h.st w2 f2 rfl, c2, fun k hk => (o2 190 k (by decide)).trans (hx.2.1 k hk), fun k hk => (o2 191 k (by decide)).trans (hx.2.2.1 k hk), fun k hk => (o2 192 k (by decide)).trans (hx.2.2.2.1 k hk), (o2 187 8 (by decide)).trans hx.2.2.2.2⟩
theorem hx_of (hm : HM (nE v) m g) : ∃ f, HX (nE v) m (f, g.2) := ⟨m.1 188, fun _ _ => rfl, hm.2⟩
theorem bringV (h : MV v g S m0 m) : Ct ad μX12_bring d [.ref (ad 187), .ref (ad 204), .int (0 : Int32)] m (fun r m' => r = none ∧ MV v g S m0 m' ∧ HM (nE v) m' g) := by
  refine (bringH (x := 0) (na := 57) rfl (by decide) (by decide) h.1 h.2.2.2.2.1 (by decide)).to ?_
  rintro _ m2 ⟨rfl, w2, f2, H2⟩
  exact ⟨rfl, h.st w2 f2 rfl, H2⟩
/-- the first act of each of these calls -/
theorem mv_0 {m0 m1 : Wm} (f0 : Fx (RS [20]) m0 m1) {T : Option SSt} {r : Option Value} (q : MSq v g T m1 r m) : (∃ S, T = some S ∧ r = some (.int 1) ∧ MV v g S m0 m ∧ HM (nE v) m g) ∨ (T = none ∧ r = some (.int 0) ∧ mQ v g m0 (-3) (some (.int (-3))) m) := by
  obtain ⟨w1, f1, hm, hl, em, q⟩ := q
  have F : Fx (RS [20, 22, 24, 26, 28, 33, 34, 35, 38, 49]) m0 m := ((Fx.rf (S := RS [20, 22, 24, 26, 28, 33, 34, 35, 38, 49])).tr f0 (RS_sub rfl)).tr f1 (RS_sub rfl)
  rcases q with ⟨S, e, rfl, sm, s, z⟩ | ⟨e, rfl⟩
  · exact Or.inl ⟨S, e, rfl, ⟨w1, F, s, sm, hl, em, z⟩, hm⟩
  · exact Or.inr ⟨e, rfl, w1, F, hm, rfl⟩
theorem mQ.o {T : Option SSt} {k : SSt → Int32} (h : mQ v g m0 (-3) (some (.int (-3))) m) (e : T = none) : mQ v g m0 (orS T k) (some (.int (-3))) m := by
  subst e
  exact h
theorem MV.q {T : Option SSt} {k : SSt → Int32} (h : MV v g S m0 m) (hm : HM (nE v) m g) (e : T = some S) {y : Int32} (hy : y = k S) : mQ v g m0 (orS T k) (some (.int y)) m := by
  subst e
  subst hy
  exact ⟨h.1, h.2.1, hm, rfl⟩
theorem twX (h : MV v g S m0 m) (hm : HM (nE v) m g) {i : Nat} (hi : i < nS S) : Ct ad μX12_tellWay (d + 1) [.ref (ad 187), .int (nI i)] m (fun r m' => MV v g S m0 m' ∧ HM (nE v) m' g ∧ r = some (.int (nI (dS S i)))) := by
  have hN := h.2.2.2.1.n
  have ti : (nI i).toInt = (i : Int) := nI_toInt (by omega)
  have tn : (nI (nS S)).toInt = (nS S : Int) := nI_toInt (by omega)
  refine (tellWayX (d := d) (x1 := nI i) h.1 h.2.2.1 (by omega) (by rw [h.2.2.2.1.c43]; omega)).to ?_
  rintro _ m1 ⟨w1, f1, rfl⟩
  refine ⟨h.st w1 f1 rfl, hm.fx f1 rfl rfl, ?_⟩
  rw [nI_clamp (by omega), (h.2.2.2.1.2.2 i hi).1]
theorem e_topM {x1 x2 x3 : Int32} (w0 : WT m) (hm : HM (nE v) m g) (hE : EM m v) (hz : ZB v g) : Ct ad μX12_top (d + 178) [.ref (ad 187), .int x1, .int x2, .int x3] m (mQ v g m (topA v x1 x2 x3 g)) := by
  have n8 := hE.2.2.1
  have w1 : WT (uI m 187 17 0) := w0.n rfl
  have f1 : Fx (RS [20]) m (uI m 187 17 0) := Fx.i Fx.rf rfl
  have hm1 : HM (nE v) (uI m 187 17 0) g := hm
  have em1 : EM (uI m 187 17 0) v := hE
  refine v_X12_top (d := d + 177) ?_
  generalize uI m 187 17 0 = m1 at w1 f1 hm1 em1 ⊢
  have no : ¬ (InD (nE v) x1 ∧ InD (aE v) x2 ∧ 0 ≤ x3.toInt ∧ x3.toInt ≤ 7) → mQ v g m (topA v x1 x2 x3 g) (some (.int (-1))) m1 := fun z => by
    have e : topA v x1 x2 x3 g = -1 := if_neg z
    rw [e]
    exact ⟨w1, (Fx.rf (S := RS [20, 22, 24, 26, 28, 33, 34, 35, 38, 49])).tr f1 (RS_sub rfl), hm1, rfl⟩
  refine (sideM (d := d + 176) (x := x1) em1.1 n8).to ?_
  rintro _ m2 ⟨eq, v1, rfl, y1, y2⟩
  obtain rfl := eq.symm
  refine ⟨v1, rfl, fun c => no (fun z => y1 c z.1), fun c => (knowM (d := d + 176) (x := x2) em1.2.1 (by have := em1.2.2.2.1; omega)).to ?_⟩
  rintro _ m2 ⟨eq, v2, rfl, y3, y4⟩
  obtain rfl := eq.symm
  refine ⟨v2, rfl, fun c => no (fun z => y3 c z.2.1), fun c2 => (inM (d := d + 177) (x := x3) (lo := 0) (hi := 7) rfl rfl).to ?_⟩
  rintro _ m2 ⟨eq, v3, rfl, y5, y6⟩
  obtain rfl := eq.symm
  have z0 : (0 : Int32).toInt = 0 := rfl
  have z7 : (7 : Int32).toInt = 7 := rfl
  refine ⟨v3, rfl, fun c3 => ?_, fun c3 => no (fun z => y5 c3 ⟨by omega, by omega⟩)⟩
  have h1 := y2 c
  have h2 := y4 c2
  have h3 := y6 c3
  obtain ⟨s, hs, rfl⟩ := h1.of
  obtain ⟨a, ha, rfl⟩ := h2.of
  have h4 := em1.2.2.2.1
  have eA : topA v (nI s) (nI a) x3 g = orS (srG v g 3000) (fun S => wyA S (fstI (skB S s a x3) (nS S) 0)) := by
    unfold topA
    rw [if_pos ⟨h1, h2, by omega, by omega⟩, nI_clamp (by omega), nI_clamp (by omega)]
  rw [eA, e3000]
  refine (findStatesX (d := d) w1 hm1 em1 hz (wi := 3000) (by decide)).to ?_
  intro r m2 q
  rcases mv_0 f1 q with ⟨S, e, rfl, h, hm2⟩ | ⟨e, rfl, h⟩
  · refine ⟨1, rfl, fun _ => ?_, fun q => absurd q (by decide)⟩
    have hN := h.2.2.2.1.n
    have L : ∀ k i, i + k = nS S → fstI (skB S s a x3) (nS S) 0 = fstI (skB S s a x3) k i → AW ad E0 μX12_top (d + 178) (mQ v g m (orS (srG v g 3000) (fun S => wyA S (fstI (skB S s a x3) (nS S) 0)))) 51 [(0, .ref (ad 187)), (1, .int (nI s)), (2, .int (nI a)), (3, .int x3), (4, .int (nI i))] [] m2 := by
      have c43 := h.2.2.2.1.c43
      intro k
      induction k with
      | zero =>
        intro i hi hf
        obtain rfl : i = nS S := hi
        exact g_X12_top_51 (d := d + 177) ⟨fun _ => h.q hm2 e (by show (-2 : Int32) = wyA S (fstI (skB S s a x3) (nS S) 0); rw [hf]; rfl), fun c => absurd (by rw [c43]; exact (nI_leI (by omega) (by omega)).mpr (Nat.le_refl _)) c⟩
      | succ k ih =>
        intro i hi hf
        obtain ⟨a1, a2, a3⟩ := h.2.2.2.1.2.1 i (by omega)
        refine g_X12_top_51 (d := d + 177) ⟨fun c => absurd (by rw [c43] at c; exact (nI_leI (by omega) (by omega)).mp c) (by omega), fun _ => (getM (d := d + 177) a1 a2 a3 (by omega) (s := s) (a := a) (by omega) (by omega)).to ?_⟩
        rintro _ m3 ⟨eq, rfl⟩
        obtain rfl := eq.symm
        refine ⟨_, rfl, fun c => ?_, fun c => ?_⟩
        · have e1 : skB S s a x3 i = false := by unfold skB; rw [decide_eq_true c]; rfl
          rw [fst_n e1] at hf
          rw [nI_1]
          exact ih (i + 1) (by omega) hf
        · have e1 : skB S s a x3 i = true := by unfold skB; rw [decide_eq_false c]; rfl
          rw [fst_y e1] at hf
          refine (twX (d := d + 176) h hm2 (i := i) (by omega)).to ?_
          rintro _ m4 ⟨h4, hm4, rfl⟩
          exact ⟨_, rfl, h4.q hm4 e (by show nI (dS S i) = wyA S (fstI (skB S s a x3) (nS S) 0); rw [hf]; rfl)⟩
    exact L (nS S) 0 (by omega) rfl
  · exact ⟨0, rfl, fun q => absurd rfl q, fun _ => h.o e⟩
theorem e_quickM {x1 : Int32} (w0 : WT m) (hm : HM (nE v) m g) (hE : EM m v) (hz : ZB v g) : Ct ad μX12_quick (d + 178) [.ref (ad 187), .int x1] m (mQ v g m (quickA v x1 g)) := by
  have n8 := hE.2.2.1
  have w1 : WT (uI m 187 17 0) := w0.n rfl
  have f1 : Fx (RS [20]) m (uI m 187 17 0) := Fx.i Fx.rf rfl
  have hm1 : HM (nE v) (uI m 187 17 0) g := hm
  have em1 : EM (uI m 187 17 0) v := hE
  refine v_X12_quick (d := d + 177) ?_
  generalize uI m 187 17 0 = m1 at w1 f1 hm1 em1 ⊢
  rw [e3000]
  refine (findStatesX (d := d) w1 hm1 em1 hz (wi := 3000) (by decide)).to ?_
  intro r m2 q
  rcases mv_0 f1 q with ⟨S, e, rfl, h, hm2⟩ | ⟨e, rfl, h⟩
  · refine ⟨1, rfl, fun _ => ?_, fun q => absurd q (by decide)⟩
    have hN := h.2.2.2.1.n
    have nn : ∀ i, i ≤ 3000 → ¬ nI i = (-1 : Int32) := fun i hi q => by
      have := congrArg Int32.toInt q
      rw [nI_toInt (by omega)] at this
      have z1 : (-1 : Int32).toInt = -1 := rfl
      omega
    have E100 : ∀ (o : Option Nat) (m3 : Wm), fstI (stB v g.2 S x1) (nS S) 0 = o → MV v g S m m3 → AW ad E0 μX12_quick (d + 178) (mQ v g m (quickA v x1 g)) 100 [(0, .ref (ad 187)), (2, .int (ixA o))] [] m3 := by
      intro o m3 ho h3
      refine g_X12_quick_100 (d := d + 177) ((bringV (d := d + 177) h3).to ?_)
      rintro _ m4 ⟨rfl, h4, hm4⟩
      refine ⟨rfl, fun c => ?_, fun c => ?_⟩
      · cases o with
        | none => exact absurd rfl c
        | some i =>
          refine (twX (d := d + 176) h4 hm4 (i := i) (fst_in i ho)).to ?_
          rintro _ m5 ⟨h5, hm5, rfl⟩
          exact ⟨_, rfl, h5.q hm5 e (by show nI (dS S i) = wyA S (fstI (stB v g.2 S x1) (nS S) 0); rw [ho]; rfl)⟩
      · cases o with
        | none => exact h4.q hm4 e (by show (-2 : Int32) = wyA S (fstI (stB v g.2 S x1) (nS S) 0); rw [ho]; rfl)
        | some i => exact absurd c (nn i (by have := fst_in i ho; omega))
    have L : ∀ k i (m3 : Wm), i + k = nS S → fstI (stB v g.2 S x1) (nS S) 0 = fstI (stB v g.2 S x1) k i → MV v g S m m3 → (∃ f, HX (nE v) m3 (f, g.2)) → AW ad E0 μX12_quick (d + 178) (mQ v g m (quickA v x1 g)) 22 [(0, .ref (ad 187)), (1, .int x1), (2, .int (-1 : Int32)), (3, .int (nI i))] [] m3 := by
      intro k
      induction k with
      | zero =>
        intro i m3 hi hf h3 hp
        obtain rfl : i = nS S := hi
        have c43 := h3.2.2.2.1.c43
        exact g_X12_quick_22 (d := d + 177) ⟨fun _ => E100 none m3 hf h3, fun c => absurd (by rw [c43]; exact (nI_leI (by omega) (by omega)).mpr (Nat.le_refl _)) c⟩
      | succ k ih =>
        intro i m3 hi hf h3 hp
        have c43 := h3.2.2.2.1.c43
        refine g_X12_quick_22 (d := d + 177) ⟨fun c => absurd (by rw [c43] at c; exact (nI_leI (by omega) (by omega)).mp c) (by omega), fun _ => ⟨fun c => absurd rfl c, fun _ => (loadV (d := d + 177) h3 hp (i := i) (by omega)).to ?_⟩⟩
        rintro _ m4 ⟨rfl, h4, x4⟩
        refine ⟨rfl, ?_⟩
        have FIN : ∀ (q : Bool) (m5 : Wm), MV v g S m m5 → (∃ f, HX (nE v) m5 (f, g.2)) → stB v g.2 S x1 i = q → AW ad E0 μX12_quick (d + 178) (mQ v g m (quickA v x1 g)) 83 [(0, .ref (ad 187)), (1, .int x1), (3, .int (nI i)), (4, .int (if q = true then (1 : Int32) else 0))] [] m5 := by
          intro q m5 h5 hp5 eq
          cases q with
          | true =>
            rw [fst_y eq] at hf
            refine g_X12_quick_83 (d := d + 177) ⟨fun c => absurd c (by decide), fun _ => ?_⟩
            rw [nI_1]
            have g22 : ∀ y : Int32, AW ad E0 μX12_quick (d + 178) (mQ v g m (quickA v x1 g)) 22 [(0, .ref (ad 187)), (1, .int x1), (2, .int (nI i)), (3, .int y)] [] m5 := fun y => g_X12_quick_22 (d := d + 177) ⟨fun _ => E100 (some i) m5 hf h5, fun _ => ⟨fun _ => E100 (some i) m5 hf h5, fun c => absurd c (nn i (by omega))⟩⟩
            exact g22 _
          | false =>
            rw [fst_n eq] at hf
            refine g_X12_quick_83 (d := d + 177) ⟨fun _ => ?_, fun c => absurd rfl c⟩
            rw [nI_1]
            exact ih (i + 1) m5 (by omega) hf h5 hp5
        have M : ∀ j s (m5 : Wm), s + j = nE v → MV v g S m m5 → HX (nE v) m5 (kS S i, g.2) → stB v g.2 S x1 i = alB (pwG v (kS S i, g.2)) x1 j s → AW ad E0 μX12_quick (d + 178) (mQ v g m (quickA v x1 g)) 46 [(0, .ref (ad 187)), (1, .int x1), (3, .int (nI i)), (4, .int (1 : Int32)), (5, .int (nI s))] [] m5 := by
          intro j
          induction j with
          | zero =>
            intro s m5 hs h5 x5 eq
            obtain rfl : s = nE v := hs
            have e1 := h5.2.2.2.2.2.1.1
            exact g_X12_quick_46 (d := d + 177) ⟨fun _ => FIN true m5 h5 ⟨_, x5⟩ eq, fun c => absurd (by rw [e1]; exact (nI_leI (by omega) (by omega)).mpr (Nat.le_refl _)) c⟩
          | succ j ihj =>
            intro s m5 hs h5 x5 eq
            have em := h5.2.2.2.2.2.1
            have e1 := em.1
            have eq' : stB v g.2 S x1 i = if pwG v (kS S i, g.2) s < x1 then false else alB (pwG v (kS S i, g.2)) x1 j (s + 1) := eq
            refine g_X12_quick_46 (d := d + 177) ⟨fun c => absurd (by rw [e1] at c; exact (nI_leI (by omega) (by omega)).mp c) (by omega), fun _ => ⟨fun c => absurd c (by decide), fun _ => (powerM (d := d + 9) h5.1 (x5.hm n8) em (s := s) (by omega)).to ?_⟩⟩
            rintro _ m6 ⟨w6, f6, rfl⟩
            have h6 := h5.st w6 f6 rfl
            have x6 := x5.fx f6 rfl rfl
            refine ⟨_, rfl, fun c => ?_, fun c => ?_⟩
            · rw [if_pos c] at eq'
              have F := FIN false m6 h6 ⟨_, x6⟩ eq'
              exact g_X12_quick_46 (d := d + 177) ⟨fun _ => F, fun _ => ⟨fun _ => F, fun z => absurd rfl z⟩⟩
            · rw [if_neg c] at eq'
              rw [nI_1]
              exact ihj (s + 1) m6 (by omega) h6 x6 eq'
        exact M (nE v) 0 m4 (by omega) h4 x4 rfl
    exact L (nS S) 0 m2 (by omega) rfl h (hx_of hm2)
  · exact ⟨0, rfl, fun q => absurd rfl q, fun _ => h.o e⟩
theorem e_bestM {x1 x2 : Int32} (w0 : WT m) (hm : HM (nE v) m g) (hE : EM m v) (hz : ZB v g) : Ct ad μX12_best (d + 178) [.ref (ad 187), .int x1, .int x2] m (mQ v g m (bestA v x1 x2 g)) := by
  have n8 := hE.2.2.1
  have w1 : WT (uI m 187 17 0) := w0.n rfl
  have f1 : Fx (RS [20]) m (uI m 187 17 0) := Fx.i Fx.rf rfl
  have hm1 : HM (nE v) (uI m 187 17 0) g := hm
  have em1 : EM (uI m 187 17 0) v := hE
  refine v_X12_best (d := d + 177) ?_
  generalize uI m 187 17 0 = m1 at w1 f1 hm1 em1 ⊢
  have no : ¬ (InD (nE v) x1 ∧ 0 ≤ x2.toInt ∧ x2.toInt ≤ 9) → mQ v g m (bestA v x1 x2 g) (some (.int (-1))) m1 := fun z => by
    have e : bestA v x1 x2 g = -1 := if_neg z
    rw [e]
    exact ⟨w1, (Fx.rf (S := RS [20, 22, 24, 26, 28, 33, 34, 35, 38, 49])).tr f1 (RS_sub rfl), hm1, rfl⟩
  refine (sideM (d := d + 176) (x := x1) em1.1 n8).to ?_
  rintro _ m2 ⟨eq, v1, rfl, y1, y2⟩
  obtain rfl := eq.symm
  refine ⟨v1, rfl, fun c => no (fun z => y1 c z.1), fun c => (inM (d := d + 177) (x := x2) (lo := 0) (hi := 9) rfl rfl).to ?_⟩
  rintro _ m2 ⟨eq, v3, rfl, y5, y6⟩
  obtain rfl := eq.symm
  have z0 : (0 : Int32).toInt = 0 := rfl
  have z9 : (9 : Int32).toInt = 9 := rfl
  refine ⟨v3, rfl, fun c3 => ?_, fun c3 => no (fun z => y5 c3 ⟨by omega, by omega⟩)⟩
  have h1 := y2 c
  have h3 := y6 c3
  obtain ⟨s, hs, rfl⟩ := h1.of
  obtain ⟨n, hn, rfl⟩ := zn_of (x := x2) (by omega)
  rw [nI_toInt hn] at h3
  have eA : bestA v (nI s) (nI n) g = orS (srG v g n) (fun S => gpA (fun i => pwG v (kS S i, g.2) s) (nS S)) := by
    unfold bestA
    rw [if_pos ⟨h1, by rw [nI_toInt hn]; omega, by rw [nI_toInt hn]; omega⟩, nI_clamp (n := n) hn, nI_clamp (n := s) (by omega)]
  rw [eA]
  refine (findStatesX (d := d) w1 hm1 em1 hz (wi := n) (by omega)).to ?_
  intro r m2 q
  rcases mv_0 f1 q with ⟨S, e, rfl, h, hm2⟩ | ⟨e, rfl, h⟩
  · refine ⟨1, rfl, fun _ => ?_, fun q => absurd q (by decide)⟩
    have hN := h.2.2.2.1.n
    have L : ∀ k i (m3 : Wm) (x3 : Nat), i + k = nS S → x3 < 3000 → MV v g S m m3 → (∃ f, HX (nE v) m3 (f, g.2)) → AW ad E0 μX12_best (d + 178) (mQ v g m (orS (srG v g n) (fun S => gpA (fun i => pwG v (kS S i, g.2) s) (nS S)))) 46 [(0, .ref (ad 187)), (1, .int (nI s)), (3, .int (nI x3)), (4, .int (gpA (fun i => pwG v (kS S i, g.2) s) i)), (5, .int (nI i))] [] m3 := by
      intro k
      induction k with
      | zero =>
        intro i m3 x3 hi h3x h3 hp
        obtain rfl : i = nS S := hi
        have c43 := h3.2.2.2.1.c43
        refine g_X12_best_46 (d := d + 177) ⟨fun _ => (bringV (d := d + 177) h3).to ?_, fun c => absurd (by rw [c43]; exact (nI_leI (by omega) (by omega)).mpr (Nat.le_refl _)) c⟩
        rintro _ m4 ⟨rfl, h4, hm4⟩
        have w5 : WT (uI m4 187 16 (0 : Int32)) := h4.1.t rfl (by decide) (by decide)
        have f5 : Fx (RS [26]) m4 (uI m4 187 16 (0 : Int32)) := Fx.i Fx.rf rfl
        have h5 := h4.st w5 f5 rfl
        have hm5 : HM (nE v) (uI m4 187 16 (0 : Int32)) g := hm4
        refine ⟨rfl, nat_in h3x (by decide), (s_X12_tell w5 (by rw [u_eq]; decide)).to ?_⟩
        rintro _ m6 ⟨w6, f6, rfl, -⟩
        exact ⟨rfl, (h5.st w6 f6 rfl).q (hm5.fx f6 rfl rfl) e rfl⟩
      | succ k ih =>
        intro i m3 x3 hi h3x h3 hp
        have c43 := h3.2.2.2.1.c43
        refine g_X12_best_46 (d := d + 177) ⟨fun c => absurd (by rw [c43] at c; exact (nI_leI (by omega) (by omega)).mp c) (by omega), fun _ => (loadV (d := d + 177) h3 hp (i := i) (by omega)).to ?_⟩
        rintro _ m4 ⟨rfl, h4, x4⟩
        refine ⟨rfl, (powerM (d := d + 9) h4.1 (x4.hm n8) h4.2.2.2.2.2.1 (s := s) hs).to ?_⟩
        rintro _ m5 ⟨w5, f5, rfl⟩
        have h5 := h4.st w5 f5 rfl
        have x5 := x4.fx f5 rfl rfl
        have J : gpA (fun i => pwG v (kS S i, g.2) s) (i + 1) = pwG v (kS S i, g.2) s → AW ad E0 μX12_best (d + 178) (mQ v g m (orS (srG v g n) (fun S => gpA (fun i => pwG v (kS S i, g.2) s) (nS S)))) 46 [(0, .ref (ad 187)), (1, .int (nI s)), (3, .int (nI i)), (4, .int (pwG v (kS S i, g.2) s)), (5, .int (nI (i + 1)))] [] m5 := fun e1 => by
          have := ih (i + 1) m5 i (by omega) (by omega) h5 ⟨_, x5⟩
          rw [e1] at this
          exact this
        rw [nI_1]
        refine ⟨_, rfl, fun c => J (gpA_0 (by have := (l_le 0 0 rfl (by decide) (by omega)).mp c; omega)), fun c => ?_⟩
        have hi0 : ¬ i = 0 := fun z => c (by rw [z]; exact (l_le 0 0 rfl (by decide) (by decide)).mpr (Nat.le_refl _))
        refine ⟨fun c2 => J (gpA_n hi0 (fun z => by have := z_lt c2; have := z_le z; omega)), fun c2 => ?_⟩
        have := ih (i + 1) m5 x3 (by omega) h3x h5 ⟨_, x5⟩
        rw [gpA_p (f := fun i => pwG v (kS S i, g.2) s) hi0 ((fa_le _ _).mpr (z_nlt c2))] at this
        exact this
    exact L (nS S) 0 m2 0 (by omega) (by decide) h (hx_of hm2)
  · exact ⟨0, rfl, fun q => absurd rfl q, fun _ => h.o e⟩
theorem e_evenM {x1 : Int32} (w0 : WT m) (hm : HM (nE v) m g) (hE : EM m v) (hz : ZB v g) : Ct ad μX12_even (d + 178) [.ref (ad 187), .int x1] m (mQ v g m (evenA v x1 g)) := by
  have n8 := hE.2.2.1
  have w1 : WT (uI m 187 17 0) := w0.n rfl
  have f1 : Fx (RS [20]) m (uI m 187 17 0) := Fx.i Fx.rf rfl
  have hm1 : HM (nE v) (uI m 187 17 0) g := hm
  have em1 : EM (uI m 187 17 0) v := hE
  refine v_X12_even (d := d + 177) ?_
  generalize uI m 187 17 0 = m1 at w1 f1 hm1 em1 ⊢
  have no : ¬ ((0 ≤ x1.toInt ∧ x1.toInt ≤ 9) ∧ ¬ nE v = 0) → mQ v g m (evenA v x1 g) (some (.int (-1))) m1 := fun z => by
    have e : evenA v x1 g = -1 := if_neg z
    rw [e]
    exact ⟨w1, (Fx.rf (S := RS [20, 22, 24, 26, 28, 33, 34, 35, 38, 49])).tr f1 (RS_sub rfl), hm1, rfl⟩
  refine (inM (d := d + 177) (x := x1) (lo := 0) (hi := 9) rfl rfl).to ?_
  rintro _ m2 ⟨eq, v3, rfl, y5, y6⟩
  obtain rfl := eq.symm
  have z0 : (0 : Int32).toInt = 0 := rfl
  have z9 : (9 : Int32).toInt = 9 := rfl
  refine ⟨v3, rfl, fun c3 => no (fun z => y5 c3 ⟨by omega, by omega⟩), fun c3 => ⟨fun c5 => ?_, fun c5 => no (fun z => z.2 ((nI_eq (a := nE v) (b := 0) (by omega) (by decide)).mp (em1.1.symm.trans c5)))⟩⟩
  have h3 := y6 c3
  have hn0 : ¬ nE v = 0 := fun z => c5 (by rw [em1.1, z]; rfl)
  obtain ⟨n, hn, rfl⟩ := zn_of (x := x1) (by omega)
  rw [nI_toInt hn] at h3
  have eA : evenA v (nI n) g = orS (srG v g n) (fun S => lgA (fun i => sprA v (kS S i, g.2)) (nS S)) := by
    unfold evenA
    rw [if_pos ⟨⟨by rw [nI_toInt hn]; omega, by rw [nI_toInt hn]; omega⟩, hn0⟩, nI_clamp hn]
  rw [eA]
  refine (findStatesX (d := d) w1 hm1 em1 hz (wi := n) (by omega)).to ?_
  intro r m2 q
  rcases mv_0 f1 q with ⟨S, e, rfl, h, hm2⟩ | ⟨e, rfl, h⟩
  · refine ⟨1, rfl, fun _ => ?_, fun q => absurd q (by decide)⟩
    have hN := h.2.2.2.1.n
    have L : ∀ k i (m3 : Wm) (x3 : Nat), i + k = nS S → x3 < 3000 → MV v g S m m3 → (∃ f, HX (nE v) m3 (f, g.2)) → AW ad E0 μX12_even (d + 178) (mQ v g m (orS (srG v g n) (fun S => lgA (fun i => sprA v (kS S i, g.2)) (nS S)))) 44 [(0, .ref (ad 187)), (2, .int (nI x3)), (3, .int (lgA (fun i => sprA v (kS S i, g.2)) i)), (4, .int (nI i))] [] m3 := by
      intro k
      induction k with
      | zero =>
        intro i m3 x3 hi h3x h3 hp
        obtain rfl : i = nS S := hi
        have c43 := h3.2.2.2.1.c43
        refine g_X12_even_44 (d := d + 177) ⟨fun _ => (bringV (d := d + 177) h3).to ?_, fun c => absurd (by rw [c43]; exact (nI_leI (by omega) (by omega)).mpr (Nat.le_refl _)) c⟩
        rintro _ m4 ⟨rfl, h4, hm4⟩
        have w5 : WT (uI m4 187 16 (0 : Int32)) := h4.1.t rfl (by decide) (by decide)
        have f5 : Fx (RS [26]) m4 (uI m4 187 16 (0 : Int32)) := Fx.i Fx.rf rfl
        have h5 := h4.st w5 f5 rfl
        have hm5 : HM (nE v) (uI m4 187 16 (0 : Int32)) g := hm4
        refine ⟨rfl, nat_in h3x (by decide), (s_X12_tell w5 (by rw [u_eq]; decide)).to ?_⟩
        rintro _ m6 ⟨w6, f6, rfl, -⟩
        exact ⟨rfl, (h5.st w6 f6 rfl).q (hm5.fx f6 rfl rfl) e rfl⟩
      | succ k ih =>
        intro i m3 x3 hi h3x h3 hp
        have c43 := h3.2.2.2.1.c43
        refine g_X12_even_44 (d := d + 177) ⟨fun c => absurd (by rw [c43] at c; exact (nI_leI (by omega) (by omega)).mp c) (by omega), fun _ => (loadV (d := d + 177) h3 hp (i := i) (by omega)).to ?_⟩
        rintro _ m4 ⟨rfl, h4, x4⟩
        refine ⟨rfl, (spreadNowM (d := d + 8) h4.1 (x4.hm n8) h4.2.2.2.2.2.1).to ?_⟩
        rintro _ m5 ⟨w5, f5, rfl⟩
        have h5 := h4.st w5 f5 rfl
        have x5 := x4.fx f5 rfl rfl
        have J : lgA (fun i => sprA v (kS S i, g.2)) (i + 1) = sprA v (kS S i, g.2) → AW ad E0 μX12_even (d + 178) (mQ v g m (orS (srG v g n) (fun S => lgA (fun i => sprA v (kS S i, g.2)) (nS S)))) 44 [(0, .ref (ad 187)), (2, .int (nI i)), (3, .int (sprA v (kS S i, g.2))), (4, .int (nI (i + 1)))] [] m5 := fun e1 => by
          have := ih (i + 1) m5 i (by omega) (by omega) h5 ⟨_, x5⟩
          rw [e1] at this
          exact this
        rw [nI_1]
        refine ⟨_, rfl, fun c => J (lgA_0 (by have := (l_le 0 0 rfl (by decide) (by omega)).mp c; omega)), fun c => ?_⟩
        have hi0 : ¬ i = 0 := fun z => c (by rw [z]; exact (l_le 0 0 rfl (by decide) (by decide)).mpr (Nat.le_refl _))
        refine ⟨fun c2 => J (lgA_n hi0 (fun z => by have := z_lt c2; have := z_le z; omega)), fun c2 => ?_⟩
        have := ih (i + 1) m5 x3 (by omega) h3x h5 ⟨_, x5⟩
        rw [lgA_p (f := fun i => sprA v (kS S i, g.2)) hi0 ((fa_le _ _).mpr (z_nlt c2))] at this
        exact this
    exact L (nS S) 0 m2 0 (by omega) (by decide) h (hx_of hm2)
  · exact ⟨0, rfl, fun q => absurd rfl q, fun _ => h.o e⟩
theorem e_allM (w0 : WT m) (hm : HM (nE v) m g) (hE : EM m v) (hz : ZB v g) : Ct ad μX12_all (d + 178) [.ref (ad 187)] m (mQ v g m (allA v g)) := by
  have n8 := hE.2.2.1
  have w1 : WT (uI m 187 17 0) := w0.n rfl
  have f1 : Fx (RS [20]) m (uI m 187 17 0) := Fx.i Fx.rf rfl
  have hm1 : HM (nE v) (uI m 187 17 0) g := hm
  have em1 : EM (uI m 187 17 0) v := hE
  refine v_X12_all (d := d + 177) ?_
  generalize uI m 187 17 0 = m1 at w1 f1 hm1 em1 ⊢
  rw [e3000]
  refine (findStatesX (d := d) w1 hm1 em1 hz (wi := 3000) (by decide)).to ?_
  intro r m2 q
  have n1 : ∀ S, srG v g 3000 = some S → 0 < nS S := fun S e => srG_pos e
  rcases mv_0 f1 q with ⟨S, e, rfl, h, hm2⟩ | ⟨e, rfl, h⟩
  · refine ⟨1, rfl, fun _ => ?_, fun q => absurd q (by decide)⟩
    have hN := h.2.2.2.1.n
    have hp1 := n1 S e
    have L : ∀ k i (m3 : Wm) (y1 y2 : Int32), i + k = nS S → MV v g S m m3 → (∃ f, HX (nE v) m3 (f, g.2)) → AW ad E0 μX12_all (d + 178) (mQ v g m (allA v g)) 26 [(0, .ref (ad 187)), (1, .int y1), (2, .int y2), (3, .int (nI i))] [] m3 := by
      intro k
      induction k with
      | zero =>
        intro i m3 y1 y2 hi h3 hp
        obtain rfl : i = nS S := hi
        have c43 := h3.2.2.2.1.c43
        refine g_X12_all_26 (d := d + 177) ⟨fun _ => (bringV (d := d + 177) h3).to ?_, fun c => absurd (by rw [c43]; exact (nI_leI (by omega) (by omega)).mpr (Nat.le_refl _)) c⟩
        rintro _ m4 ⟨rfl, h4, hm4⟩
        have w5 : WT (uI m4 187 16 (0 : Int32)) := h4.1.t rfl (by decide) (by decide)
        have f5 : Fx (RS [26]) m4 (uI m4 187 16 (0 : Int32)) := Fx.i Fx.rf rfl
        have h5 := h4.st w5 f5 rfl
        have hm5 : HM (nE v) (uI m4 187 16 (0 : Int32)) g := hm4
        refine ⟨rfl, (s_X12_tell w5 (by rw [u_eq]; decide)).to ?_⟩
        rintro _ m6 ⟨w6, f6, rfl, p6⟩
        have p6' : (m6.1 187 16).toInt = 0 + 1 := p6
        refine ⟨rfl, (s_X12_tell w6 (by omega)).to ?_⟩
        rintro _ m7 ⟨w7, f7, rfl, p7⟩
        have h7 := (h5.st w6 f6 rfl).st w7 f7 rfl
        have hm7 := (hm5.fx f6 rfl rfl).fx f7 rfl rfl
        have c7 := h7.2.2.2.1.c43
        have e1 : nI (nS S) - 1 = nI (nS S - 1) := nI_sb (a := nS S) (b := 1) (by omega) (by omega)
        rw [c7, e1]
        refine ⟨rfl, nat_in (by omega) (by decide), (s_X12_tell w7 (by omega)).to ?_⟩
        rintro _ m8 ⟨w8, f8, rfl, -⟩
        have h8 := h7.st w8 f8 rfl
        refine ⟨rfl, ?_⟩
        rw [h8.2.2.2.1.c43]
        exact h8.q (hm7.fx f8 rfl rfl) e rfl
      | succ k ih =>
        intro i m3 y1 y2 hi h3 hp
        have c43 := h3.2.2.2.1.c43
        refine g_X12_all_26 (d := d + 177) ⟨fun c => absurd (by rw [c43] at c; exact (nI_leI (by omega) (by omega)).mp c) (by omega), fun _ => (loadV (d := d + 177) h3 hp (i := i) (by omega)).to ?_⟩
        rintro _ m4 ⟨rfl, h4, x4⟩
        refine ⟨rfl, (s_X12_sumOfAll (d := d + 176) h4.1).to ?_⟩
        rintro _ m5 ⟨w5, f5, v5, rfl⟩
        rw [nI_1]
        exact ⟨v5, rfl, ih (i + 1) m5 _ _ (by omega) (h4.st w5 f5 rfl) ⟨_, x4.fx f5 rfl rfl⟩⟩
    exact L (nS S) 0 m2 _ _ (by omega) h (hx_of hm2)
  · exact ⟨0, rfl, fun q => absurd rfl q, fun _ => h.o e⟩
/-! both sides -/
theorem IV.sw {R : List Nat} (h : IV m) (f : Fx (RS R) m m') (e : (R.all fun x => !(([0, 8, 21, 23, 25, 39, 41, 56, 57] : List Nat).elem x)) = true) (s : SWx m') : IV m' := by
  obtain ⟨h1, h2, h3, h4, h5⟩ := h
  refine ⟨h1.fx f (all_ne e rfl), h2.fx f (all_ne e rfl) (all_ne e rfl), ?_, ?_, ?_, h5.2.1.fx f (all_ne e rfl) (all_ne e rfl) (all_ne e rfl) (all_ne e rfl), s⟩
  · rw [f.at (a := 3) (k := 3) (nRS (all_ne e (ρ := 41) rfl) rfl), f.at (a := 187) (k := 1) (nRS (all_ne e (ρ := 23) rfl) rfl)]; exact h3
  · rw [f.at (a := 3) (k := 4) (nRS (all_ne e (ρ := 41) rfl) rfl), f.at (a := 187) (k := 0) (nRS (all_ne e (ρ := 23) rfl) rfl)]; exact h4
  · rw [f.at (a := 0) (k := 15) (nRS (all_ne e (ρ := 8) rfl) rfl), f.at (a := 187) (k := 52) (nRS (all_ne e (ρ := 39) rfl) rfl)]; exact h5.1
theorem og_x {μ μ' : MI} {as : List Value} {c : Nat} {A : EV → Option PLN → GS → Int32} {R B : List Nat}
    (hC : ∀ m g v op, WT m → SWx m → HC 21 m g → EC m v → ZB v g → PlO v m op → Ct ad μ (d + 300) (.ref (ad 0) :: as) m (fun r m' => WT m' ∧ Fx (RS R) m m' ∧ SWx m' ∧ r = some (.int (A v op g))))
    (hM : ∀ m g v op, WT m → HM (nE v) m g → EM m v → ZB v g → PlO v m op → Ct ad μ' (d + 300) (.ref (ad 187) :: as) m (fun r m' => WT m' ∧ Fx (RS B) m m' ∧ HM (nE v) m' g ∧ r = some (.int (A v op g))))
    (a1 : (R.all fun x => !(KGL.elem x)) = true) (a2 : (R.all fun x => !(([0, 8, 21, 23, 25, 39, 41, 56, 57] : List Nat).elem x)) = true) (a3 : (R.all fun x => !(KLB.elem x)) = true)
    (b1 : (B.all fun x => !(KGH.elem x)) = true) (b2 : (B.all fun x => !(IL.elem x)) = true) (b3 : (B.all fun x => !(KLB.elem x)) = true)
    (c1 : (R.all fun x => !(([7, 25, 54, 55] : List Nat).elem x)) = true) : Both ad d μ μ' as (InvK (KX KG c)) (InvK (KX KG (c + 1))) := fun m I => by
  obtain ⟨w, I1, ⟨g, v, H, kd⟩, kb⟩ := I
  obtain ⟨op, px⟩ := plO_of kb.1 kd.2.2.1
  refine (hC m g v op w I1.2.2.2.2.2.2 kd.1 kd.2.2.1 kd.2.2.2.2.2.2.1 px).to ?_
  rintro _ m1 ⟨w1, f1, s1, rfl⟩
  have kd1 := kd.fx f1 a1
  have J1 := I1.sw f1 a2 s1
  refine ⟨_, rfl, (hM m1 g v op w1 kd1.2.1 kd1.2.2.2.1 kd1.2.2.2.2.2.2.1 (px.fx f1 (all_ne c1 rfl) (all_ne c1 rfl) (all_ne c1 rfl) (all_ne c1 rfl))).to ?_⟩
  rintro _ m2 ⟨w2, f2, hm2, rfl⟩
  exact ⟨rfl, w2, J1.fx f2 b2, ⟨g, v, H, kd1.hms f2 b1 hm2⟩, KB.fd c f1 f2 kb a3 b3⟩
theorem og_top (c : Nat) (x1 x2 x3 : Int32) : Both ad d μX11_top μX12_top [.int x1, .int x2, .int x3] (InvK (KX KG c)) (InvK (KX KG (c + 1))) := og_x (R := [2, 9, 10, 11, 14, 58]) (B := [20, 22, 24, 26, 28, 33, 34, 35, 38, 49]) (A := fun v _ g => topA v x1 x2 x3 g) (fun m g v _ w s hc he hz _ => e_topC (d := d + 293) w s hc he hz) (fun m g v _ w hm he hz _ => e_topM (d := d + 122) w hm he hz) rfl rfl rfl rfl rfl rfl rfl
theorem og_quick (c : Nat) (x1 : Int32) : Both ad d μX11_quick μX12_quick [.int x1] (InvK (KX KG c)) (InvK (KX KG (c + 1))) := og_x (R := [2, 9, 10, 11, 14, 58]) (B := [20, 22, 24, 26, 28, 33, 34, 35, 38, 49]) (A := fun v _ g => quickA v x1 g) (fun m g v _ w s hc he hz _ => e_quickC (d := d + 293) w s hc he hz) (fun m g v _ w hm he hz _ => e_quickM (d := d + 122) w hm he hz) rfl rfl rfl rfl rfl rfl rfl
theorem og_best (c : Nat) (x1 x2 : Int32) : Both ad d μX11_best μX12_best [.int x1, .int x2] (InvK (KX KG c)) (InvK (KX KG (c + 1))) := og_x (R := [2, 9, 10, 11, 14, 58]) (B := [20, 22, 24, 26, 28, 33, 34, 35, 38, 49]) (A := fun v _ g => bestA v x1 x2 g) (fun m g v _ w s hc he hz _ => e_bestC (d := d + 293) w s hc he hz) (fun m g v _ w hm he hz _ => e_bestM (d := d + 122) w hm he hz) rfl rfl rfl rfl rfl rfl rfl
theorem og_even (c : Nat) (x1 : Int32) : Both ad d μX11_even μX12_even [.int x1] (InvK (KX KG c)) (InvK (KX KG (c + 1))) := og_x (R := [2, 9, 10, 11, 14, 58]) (B := [20, 22, 24, 26, 28, 33, 34, 35, 38, 49]) (A := fun v _ g => evenA v x1 g) (fun m g v _ w s hc he hz _ => e_evenC (d := d + 293) w s hc he hz) (fun m g v _ w hm he hz _ => e_evenM (d := d + 122) w hm he hz) rfl rfl rfl rfl rfl rfl rfl
theorem og_all (c : Nat) : Both ad d μX11_all μX12_all [] (InvK (KX KG c)) (InvK (KX KG (c + 1))) := og_x (R := [2, 9, 10, 11, 14, 58]) (B := [20, 22, 24, 26, 28, 33, 34, 35, 38, 49]) (A := fun v _ g => allA v g) (fun m g v _ w s hc he hz _ => e_allC (d := d + 293) w s hc he hz) (fun m g v _ w hm he hz _ => e_allM (d := d + 122) w hm he hz) rfl rfl rfl rfl rfl rfl rfl
end ENM
