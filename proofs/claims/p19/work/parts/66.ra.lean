section
/-! PLAN, LAW AND WHAT IS KEPT, BETWEEN TWO CALLS -/
/-- the plan of the class at P tells the model's -/
def PlX (P : Nat) (m : Wm) : Prop := ∃ (n R g : Nat) (sn : Nat → Nat), m.1 3 3 = nI n ∧ n ≤ 8 ∧ m.1 P 5 = nI R ∧ m.1 187 11 = nI R ∧ m.1 P 6 = nI g ∧ m.1 187 10 = nI g ∧ R ≤ 12 ∧ g ≤ 40 ∧ (R = 0 → g = 0) ∧ GRel n (R - 1) g (m.1 194) (m.1 (P + 1)) (m.1 (P + 2)) (m.1 (P + 3)) sn ∧ SRel (R - 1) g sn ∧ ∀ ρ, ρ < R → m.1 (P + 4) ρ = nI (sn ρ)
def PlR (m : Wm) : Prop := ∃ P Q, PRF m P Q ∧ PlX P m
def LwR (m : Wm) : Prop := ∀ k, k < 5 → m.1 4 k = m.1 193 k
def KpR (c : Nat) (m : Wm) : Prop := ∃ t, t ≤ c ∧ m.1 187 53 = nI t ∧ ∀ i, i < 2 → (∃ s, s ≤ t ∧ m.1 216 i = nI s) ∧ (m.1 (173 + 7 * i) 4 ≠ 0 ↔ m.1 215 i ≠ 0 ∧ m.1 216 i = m.1 187 53) ∧ (m.1 (173 + 7 * i) 4 ≠ 0 → ∀ k, k < 5 → m.1 (173 + 7 * i + 6) k = m.1 214 (71 * i + 65 + k))
def KB (c : Nat) (m : Wm) : Prop := PlR m ∧ LwR m ∧ KpR c m
/-- where the plan is -/
def NxR (m : Wm) : Prop := ∃ nr R, m.1 0 11 = nI nr ∧ m.1 187 12 = nI nr ∧ m.1 187 11 = nI R ∧ R ≤ 12 ∧ (nr = 0 ∨ nr < R)
theorem NxR.fx {m m' : Wm} {S : List Nat} (h : NxR m) (f : Fx (RS S) m m') (e44 : S.elem 44 = false) (e52 : S.elem 52 = false) (e25 : S.elem 25 = false) : NxR m' := by
  obtain ⟨nr, R, h1, h2, h3, h4⟩ := h
  exact ⟨nr, R, (f.at (nRS (ρ := 44) e44 rfl)).trans h1, (f.at (nRS (ρ := 52) e52 rfl)).trans h2, (f.at (nRS (ρ := 25) e25 rfl)).trans h3, h4⟩
/-- as TR, and where the plan is stands -/
def TRN (A B : List Nat) (K K' : Wm → Prop) : Prop := ∀ {m m1 m2 : Wm}, Fx (RS A) m m1 → Fx (RS B) m1 m2 → (NxR m → NxR m2) → K m → K' m2
theorem TRN.use {A B S1 S2 : List Nat} {K K' : Wm → Prop} {m m1 m2 : Wm} (h : TRN A B K K') (f1 : Fx (RS S1) m m1) (f2 : Fx (RS S2) m1 m2) (hn : NxR m → NxR m2) (k : K m) (e1 : (S1.all fun x => A.elem x) = true) (e2 : (S2.all fun x => B.elem x) = true) : K' m2 := h (Fx.tr Fx.rf f1 (RS_sub e1)) (Fx.tr Fx.rf f2 (RS_sub e2)) hn k
theorem GRel.up {n n' r g : Nat} {np fi se th : Nat → Int32} {sn : Nat → Nat} (h : GRel n r g np fi se th sn) (hn : n ≤ n') : GRel n' r g np fi se th sn := fun j hj => by
  obtain ⟨a, b, c, ⟨d1, d2⟩, ⟨e1, e2⟩, f, g, i⟩ := h j hj
  exact ⟨a, b, c, ⟨d1, by omega⟩, ⟨e1, by omega⟩, f, g, i⟩
theorem GRel.cg {n r g : Nat} {np fi se th np2 fi2 se2 th2 : Nat → Int32} {sn : Nat → Nat} (h : GRel n r g np fi se th sn) (h0 : ∀ k, k < 4 * g → np2 k = np k) (h1 : ∀ j, j < g → fi2 j = fi j) (h2 : ∀ j, j < g → se2 j = se j) (h3 : ∀ j, j < g → th2 j = th j) : GRel n r g np2 fi2 se2 th2 sn := fun j hj => by
  obtain ⟨a, b, c, e, f, g', i, ρ, k1, k2, k3⟩ := h j hj
  rw [h1 j hj, h2 j hj, h3 j hj, h0 (4 * j) (by omega), h0 (4 * j + 1) (by omega), h0 (4 * j + 2) (by omega), h0 (4 * j + 3) (by omega)]
  exact ⟨a, b, c, e, f, g', i, ρ, k1, k2, k3⟩
theorem OG.gr {n R g : Nat} {A B C T : Nat → Nat} {np fi se th : Nat → Int32} (h : OG n R g A B C T) (hn : n ≤ 8) (c : CRel A B g fi se th) (mr : MRel A B C g np) : GRel n (R - 1) g np fi se th T := fun j hj => by
  obtain ⟨a1, a2, a3, a4, a5, a6⟩ := h.1 j hj
  obtain ⟨c1, c2, c3⟩ := c j hj
  obtain ⟨m1, m2, m3, m4⟩ := mr j hj
  have tA : (nI (A j)).toInt = A j := nI_toInt (by omega)
  have tB : (nI (B j)).toInt = B j := nI_toInt (by omega)
  refine ⟨m1.trans c1.symm, m2.trans c2.symm, m3.trans c3.symm, ?_, ?_, fun q => ?_, ?_, C j, by omega, m4, a5, fun q => a6 (by omega)⟩
  · rw [c1, tA]; exact ⟨by omega, by omega⟩
  · rw [c2, tB]; exact ⟨by omega, by omega⟩
  · rw [c1, c2] at q
    exact a3 ((nI_eq (a := A j) (b := B j) (by omega) (by omega)).mp q)
  · rw [c3]; exact ⟨by decide, by decide⟩
theorem OG.sr {n R g : Nat} {A B C T : Nat → Nat} (h : OG n R g A B C T) (hR : 1 ≤ R) : SRel (R - 1) g T := ⟨h.2.2.1 (by omega), fun ρ hρ => (h.2.1 ρ (by omega)).2 (by omega), (h.2.1 (R - 1) (by omega)).1⟩
theorem cStep_ge {f : Nat → Nat} {n z r k : Nat} {S : CrS} : S.1 ≤ (cStep f n z r k S).1 := by
  unfold cStep
  by_cases h : f k < n ∧ f (z - 1 - k) < n
  · rw [if_pos h]; dsimp only; omega
  · rw [if_neg h]; omega
theorem cIn_mono {f : Nat → Nat} {n z r k : Nat} {S : CrS} : ∀ i, (cIn f n z r k S).1 ≤ (cIn f n z r (k + i) S).1 := by
  intro i
  induction i with
  | zero => exact Nat.le_refl _
  | succ i ih =>
    have h : cIn f n z r (k + (i + 1)) S = cStep f n z r (k + i) (cIn f n z r (k + i) S) := cIn_s
    rw [h]
    have := cStep_ge (f := f) (n := n) (z := z) (r := r) (k := k + i) (S := cIn f n z r (k + i) S)
    omega
theorem cOut_pos {n z : Nat} (hn : 2 ≤ n) (hz : z = n + n % 2) : ∀ r, 1 ≤ r → 1 ≤ (cOut n z r).1.1 := by
  intro r
  induction r with
  | zero => intro h; omega
  | succ r ih =>
    intro _
    by_cases h : r = 0
    · subst h
      have e0 : cOut n z 1 = (cIn (fun k => k) n z 0 (z / 2) ((0, (fun _ => 0), (fun _ => 0), (fun _ => 0)) : CrS), rotN z (fun k => k), updN (fun _ => 0) 0 0) := rfl
      have h1 : 1 ≤ (cIn (fun k => k) n z 0 (n % 2 + 1) ((0, (fun _ => 0), (fun _ => 0), (fun _ => 0)) : CrS)).1 := by
        rw [cIn_s]
        unfold cStep
        rw [if_pos ⟨by dsimp only; omega, by dsimp only; omega⟩]
        dsimp only
        omega
      have h2 := cIn_mono (f := fun k => k) (n := n) (z := z) (r := 0) (k := n % 2 + 1) (S := ((0, (fun _ => 0), (fun _ => 0), (fun _ => 0)) : CrS)) (z / 2 - (n % 2 + 1))
      rw [show n % 2 + 1 + (z / 2 - (n % 2 + 1)) = z / 2 by omega] at h2
      rw [e0]
      dsimp only
      omega
    · have h1 := ih (by omega)
      have h2 := (cIn_le (f := (cOut n z r).2.1) (n := n) (z := z) (r := r) (S := (cOut n z r).1) (z / 2)).1
      show 1 ≤ (cIn (cOut n z r).2.1 n z r (z / 2) (cOut n z r).1).1
      omega
theorem n7 {S : List Nat} (h : S.elem 7 = false) {b : Nat} (k : Nat) (h1 : 133 < b) (h2 : b < 146) : ¬ RS S b k := nRS h (rg_7 k h1 h2)
section KBB
variable {ad : Nat → Nat} {d c P Q : Nat} {m m' : Wm} {S : List Nat} {K0 K0' : Wm → Prop}
theorem PlX.fx (h : PlX P m) (hc : ∀ b k, P ≤ b → b ≤ P + 5 → m'.1 b k = m.1 b k) (h33 : m'.1 3 3 = m.1 3 3) (h11 : m'.1 187 11 = m.1 187 11) (h10 : m'.1 187 10 = m.1 187 10) (h194 : ∀ k, m'.1 194 k = m.1 194 k) : PlX P m' := by
  obtain ⟨n, R, g, sn, a1, a2, a3, a4, a5, a6, a7, a8, a9, b1, b2, b3⟩ := h
  exact ⟨n, R, g, sn, h33.trans a1, a2, (hc P 5 (by omega) (by omega)).trans a3, h11.trans a4, (hc P 6 (by omega) (by omega)).trans a5, h10.trans a6, a7, a8, a9, b1.cg (fun k _ => h194 k) (fun j _ => hc _ j (by omega) (by omega)) (fun j _ => hc _ j (by omega) (by omega)) (fun j _ => hc _ j (by omega) (by omega)), b2, fun ρ hρ => (hc _ ρ (by omega) (by omega)).trans (b3 ρ hρ)⟩
theorem PRF.fx (h : PRF m P Q) (f : Fx (RS S) m m') (e54 : S.elem 54 = false) : PRF m' P Q := ⟨(f 0 9 (nRS (ρ := 54) e54 rfl)).2.2.trans h.1, (f 0 10 (nRS (ρ := 54) e54 rfl)).2.2.trans h.2.1, h.2.2⟩
theorem PlR.fx (h : PlR m) (f : Fx (RS S) m m') (e7 : S.elem 7 = false) (e25 : S.elem 25 = false) (e41 : S.elem 41 = false) (e54 : S.elem 54 = false) (e55 : S.elem 55 = false) : PlR m' := by
  obtain ⟨P, Q, hR, X⟩ := h
  have hPQ := hR.2.2
  exact ⟨P, Q, hR.fx f e54, X.fx (fun b k h1 h2 => f.at (n7 e7 k (by omega) (by omega))) (f.at (nRS (ρ := 41) e41 rfl)) (f.at (nRS (ρ := 25) e25 rfl)) (f.at (nRS (ρ := 25) e25 rfl)) (fun k => f.at (nRS (ρ := 55) e55 rfl))⟩
theorem LwR.fx (h : LwR m) (f : Fx (RS S) m m') (e43 : S.elem 43 = false) (e47 : S.elem 47 = false) : LwR m' := fun k hk => by
  rw [f.at (a := 4) (k := k) (nRS (ρ := 43) e43 rfl), f.at (a := 193) (k := k) (nRS (ρ := 47) e47 rfl)]
  exact h k hk
theorem KpR.fx (h : KpR c m) (f : Fx (RS S) m m') (e13 : S.elem 13 = false) (e40 : S.elem 40 = false) (e45 : S.elem 45 = false) : KpR c m' := by
  obtain ⟨t, ht, h53, hi⟩ := h
  have q13 : ∀ b k, 173 ≤ b → b < 187 → m'.1 b k = m.1 b k := fun b k h1 h2 => f.at (nRS (ρ := 13) e13 (rg_13 k h1 h2))
  have q214 : ∀ k, m'.1 214 k = m.1 214 k := fun k => f.at (nRS (ρ := 40) e40 rfl)
  have q215 : ∀ k, m'.1 215 k = m.1 215 k := fun k => f.at (nRS (ρ := 40) e40 rfl)
  have q216 : ∀ k, m'.1 216 k = m.1 216 k := fun k => f.at (nRS (ρ := 40) e40 rfl)
  have q53 : m'.1 187 53 = m.1 187 53 := f.at (nRS (ρ := 45) e45 rfl)
  refine ⟨t, ht, q53.trans h53, fun i hi2 => ?_⟩
  obtain ⟨⟨s, hs, a1⟩, a2, a3⟩ := hi i hi2
  refine ⟨⟨s, hs, (q216 i).trans a1⟩, ?_, fun hz k hk => ?_⟩
  · rw [q13 (173 + 7 * i) 4 (by omega) (by omega), q215 i, q216 i, q53]; exact a2
  · rw [q13 (173 + 7 * i) 4 (by omega) (by omega)] at hz
    rw [q13 (173 + 7 * i + 6) k (by omega) (by omega), q214]; exact a3 hz k hk
theorem KpR.up (h : KpR c m) : KpR (c + 1) m := by
  obtain ⟨t, ht, r⟩ := h
  exact ⟨t, by omega, r⟩
theorem KB.kd (c : Nat) : KD (KB c) (KB (c + 1)) := by
  intro S1 S2 m m1 m2 f1 f2 k e1 e2
  obtain ⟨k1, k2, k3⟩ := k
  refine ⟨(k1.fx f1 ?_ ?_ ?_ ?_ ?_).fx f2 ?_ ?_ ?_ ?_ ?_, (k2.fx f1 ?_ ?_).fx f2 ?_ ?_, ((k3.fx f1 ?_ ?_ ?_).fx f2 ?_ ?_ ?_).up⟩
  all_goals first
    | exact all_ne (L := KL) e1 rfl
    | exact all_ne (L := KL) e2 rfl
/-- the regions of KB -/
def KLB : List Nat := [7, 13, 25, 40, 41, 43, 45, 47, 54, 55]
theorem KB.fd (c : Nat) {S1 S2 : List Nat} {m m1 m2 : Wm} (f1 : Fx (RS S1) m m1) (f2 : Fx (RS S2) m1 m2) (k : KB c m) (e1 : S1.all (fun x => !(KLB.elem x)) = true) (e2 : S2.all (fun x => !(KLB.elem x)) = true) : KB (c + 1) m2 := by
  obtain ⟨k1, k2, k3⟩ := k
  refine ⟨(k1.fx f1 ?_ ?_ ?_ ?_ ?_).fx f2 ?_ ?_ ?_ ?_ ?_, (k2.fx f1 ?_ ?_).fx f2 ?_ ?_, ((k3.fx f1 ?_ ?_ ?_).fx f2 ?_ ?_ ?_).up⟩
  all_goals first
    | exact all_ne (L := KLB) e1 rfl
    | exact all_ne (L := KLB) e2 rfl
theorem KB.lg (c : Nat) (hc : c < 1000) : LGH (KB c) (KB (c + 1)) := by
  intro m m1 m2 n st dg ln sd ar fr wp il sk I en n8 w1 w2 f1 f2 hF V L E e33
  obtain ⟨-, -, ⟨P, Q, hR, X⟩, lw, ⟨t, ht, h53, hi⟩⟩ := I
  obtain ⟨c1, c2, c3, c4, c5, c6, -⟩ := L
  obtain ⟨b1, b2, b3, b4, b5, -⟩ := E
  obtain ⟨V1, V2, V3, V4, V5, V6, V7⟩ := V
  have hPQ := hR.2.2
  have hR2 : PRF m2 P Q := (hR.fx f1 rfl).fx f2 rfl
  have q7 : ∀ b k, 133 < b → b < 146 → m2.1 b k = m1.1 b k := fun b k h1 h2 => f2.at (n7 rfl k h1 h2)
  have g53 : m1.1 187 53 = nI t := (f1.at (nRS (ρ := 45) rfl rfl)).trans h53
  have t53 : m2.1 187 53 = nI (t + 1) := by rw [b4, g53, nI_1]
  refine ⟨⟨P, Q, hR2, ?_⟩, (lw.fx f1 rfl rfl).fx f2 rfl rfl, t + 1, by omega, t53, fun i hi2 => ?_⟩
  · cases wp with
    | true =>
      have b5' : m2.1 187 10 = 0 ∧ m2.1 187 11 = 0 ∧ _ := b5
      have c6' : _ ∧ _ ∧ ∀ P, m.2.2 0 9 = some P → m1.1 P 5 = 0 ∧ m1.1 P 6 = 0 := c6
      obtain ⟨z5, z6⟩ := c6'.2.2 P hR.1
      exact ⟨sd, 0, 0, (fun _ => 0), e33, V2, (q7 P 5 (by omega) (by omega)).trans z5, b5'.2.1, (q7 P 6 (by omega) (by omega)).trans z6, b5'.1, by omega, by omega, fun _ => rfl, fun j hj => absurd hj (Nat.not_lt_zero j), ⟨rfl, fun ρ hρ => by omega, Nat.le_refl _⟩, fun ρ hρ => absurd hρ (Nat.not_lt_zero ρ)⟩
    | false =>
      have b5' : m2.1 187 10 = m1.1 187 10 ∧ m2.1 187 11 = m1.1 187 11 ∧ _ := b5
      have c6' : _ ∧ _ ∧ ∀ b k, 133 < b → b < 146 → m1.1 b k = m.1 b k := c6
      have q8 : ∀ b k, 133 < b → b < 146 → m2.1 b k = m.1 b k := fun b k h1 h2 => (q7 b k h1 h2).trans (c6'.2.2 b k h1 h2)
      obtain ⟨n', R, g, sn, a1, a2, a3, a4, a5, a6, a7, a8, a9, x1, x2, x3⟩ := X
      have enn : n' = n := (nI_eq (a := n') (b := n) (by omega) (by omega)).mp (a1.symm.trans en)
      have hfr := hF rfl
      exact ⟨sd, R, g, sn, e33, V2, (q8 P 5 (by omega) (by omega)).trans a3, b5'.2.1.trans ((f1.at (nRS (ρ := 25) rfl rfl)).trans a4), (q8 P 6 (by omega) (by omega)).trans a5, b5'.1.trans ((f1.at (nRS (ρ := 25) rfl rfl)).trans a6), a7, a8, a9, (x1.up (by omega)).cg (fun k _ => (f2.at (nRS (ρ := 55) rfl rfl)).trans (f1.at (nRS (ρ := 55) rfl rfl))) (fun j _ => q8 _ j (by omega) (by omega)) (fun j _ => q8 _ j (by omega) (by omega)) (fun j _ => q8 _ j (by omega) (by omega)), x2, fun ρ hρ => (q8 _ ρ (by omega) (by omega)).trans (x3 ρ hρ)⟩
  · obtain ⟨⟨s, hs, a1⟩, -, -⟩ := hi i hi2
    have z4 : m2.1 (173 + 7 * i) 4 = 0 := (f2.at (nRS (ρ := 13) rfl (rg_13 4 (by omega) (by omega)))).trans (c5 i hi2)
    have a216 : m2.1 216 i = nI s := (f2.at (nRS (ρ := 40) rfl rfl)).trans ((f1.at (nRS (ρ := 40) rfl rfl)).trans a1)
    refine ⟨⟨s, by omega, a216⟩, ⟨fun h => absurd z4 h, fun h => ?_⟩, fun h => absurd z4 h⟩
    have h2 := h.2
    rw [a216, t53] at h2
    have := (nI_eq (a := s) (b := t + 1) (by omega) (by omega)).mp h2
    omega
/-- K0, and plan, law, what is kept -/
def KX (K0 : Wm → Prop) (c : Nat) (m : Wm) : Prop := K0 m ∧ KB c m
theorem KX.kd {K0 K0' : Wm → Prop} (c : Nat) (h : KD K0 K0') : KD (KX K0 c) (KX K0' (c + 1)) := by
  intro S1 S2 m m1 m2 f1 f2 k e1 e2
  exact ⟨h f1 f2 k.1 e1 e2, KB.kd c f1 f2 k.2 e1 e2⟩
theorem KX.lg {K0 K0' : Wm → Prop} (c : Nat) (hc : c < 1000) (h : LGH (KX K0 c) K0') : LGH (KX K0 c) (KX K0' (c + 1)) := by
  intro m m1 m2 n st dg ln sd ar fr wp il sk I en n8 w1 w2 f1 f2 hF V L E e33
  exact ⟨h m m1 m2 n st dg ln sd ar fr wp il sk I en n8 w1 w2 f1 f2 hF V L E e33, KB.lg c hc m m1 m2 n st dg ln sd ar fr wp il sk ⟨I.1, I.2.1, I.2.2.2⟩ en n8 w1 w2 f1 f2 hF V L E e33⟩
theorem pl_fin {n e p st rd gm : Nat} {tx : Nat → Int32} {big : Bool} {us : Int32} {fi se th : Nat → Int32} {sn : Nat → Nat} (hst : st = 4 ∨ st = 5) (h33 : st = 4 → p < e → tx p ≠ 33) (h44 : p < e → tx p ≠ 44 ∧ tx p ≠ 59) :
    (p < e ∨ big = true → MO (pst n) pok tx big (e - p) p (st, rd, gm, us, fi, se, th, sn) = .inl p) ∧ (¬ p < e → big = false → MO (pst n) pok tx big (e - p) p (st, rd, gm, us, fi, se, th, sn) = .inr (st, rd, gm, us, fi, se, th, sn)) := by
  have hk : pok (st, rd, gm, us, fi, se, th, sn) = true := decide_eq_true hst
  have hN : p < e → pst n (tx p) (st, rd, gm, us, fi, se, th, sn) = none := fun hp => by
    obtain ⟨q1, q2⟩ := h44 hp
    rcases hst with rfl | rfl
    · rw [pst_4b (h33 rfl hp)]; exact pBr_n q2 q1
    · rw [pst_5b]; exact pBr_n q2 q1
  constructor
  · intro h
    by_cases hp : p < e
    · rw [ep_s hp]; exact MO_f (hN hp)
    · have hb : big = true := h.resolve_left hp
      rw [show e - p = 0 by omega]
      exact MO_n (fun q => by rw [hb] at q; exact absurd q.1 (by decide))
  · intro hp hb
    rw [show e - p = 0 by omega]
    exact MO_e ⟨hb, hk⟩
theorem minT_lt {t p : Nat} (hp : p ≤ minT t 76) : (p < t ↔ (p < minT t 76 ∨ decide (76 < t) = true)) := by
  unfold minT at hp ⊢
  by_cases h : t < 76
  · rw [if_pos h] at hp ⊢
    exact ⟨fun q => Or.inl q, fun q => q.elim id (fun q => by have := of_decide_eq_true q; omega)⟩
  · rw [if_neg h] at hp ⊢
    refine ⟨fun q => ?_, fun q => q.elim (fun q => by omega) (fun q => by have := of_decide_eq_true q; omega)⟩
    by_cases h2 : 76 < t
    · exact Or.inr (decide_eq_true h2)
    · left; omega
set_option maxHeartbeats 1000000 in
theorem ob_plan (hU : TRN [0, 7, 44, 54] [20, 21, 22, 25, 27, 52, 55] K0 K0') (c : Nat) : Both ad d μX11_plan μX12_plan [] (InvK (KX K0 c)) (InvK (KX K0' (c + 1))) := fun m I => by
  obtain ⟨w, I1, kz, ⟨P, Q, hR, X⟩, lw, kp⟩ := I
  have X0 := X
  obtain ⟨n, R, g, sn, hn, n8, -⟩ := X0
  have I0 := I1
  obtain ⟨h1, h2, h3, h4, h5⟩ := I0
  have hPQ := hR.2.2
  obtain ⟨t, et, -, -, t80, -⟩ := w.nat (a := 1) (k := 1) rfl (by decide)
  have ht14 : m.1 187 14 = nI t := h2.1.symm.trans et
  have hsd : m.1 187 1 = nI n := h3.symm.trans hn
  have he80 : minT t 76 ≤ 80 := by unfold minT; split <;> omega
  by_cases ht0 : t = 0
  · subst ht0
    refine (e_planC0 (d := d + 296) w hn et hR).to ?_
    rintro r m1 ⟨w1, f1, z11, rfl, hR1, z011, z5, z6⟩
    have k1 : m1.1 187 1 = nI n := (f1.at (nRS (ρ := 23) rfl rfl)).trans hsd
    have k14 : m1.1 187 14 = nI 0 := (f1.at (nRS (ρ := 21) rfl rfl)).trans ht14
    refine ⟨0, rfl, (e_planM (d := d + 295) w1 k1 n8 k14 (by omega)).to ?_⟩
    rintro r m2 ⟨r', g', np', p', w', -, hM0, w2, f2, z14, -, -, hE⟩
    obtain ⟨rfl, rfl, rfl, rfl⟩ := hM0 rfl
    obtain ⟨rfl, k10, k11, k12, -⟩ := hE rfl (by omega)
    have e11 : m2.1 1 1 = 0 := (f2.at (nRS (ρ := 0) rfl rfl)).trans z11
    refine ⟨rfl, w2, ⟨Or.inl (by rw [k11]; rfl), TXI.zero (by rw [e11]; rfl) z14, IV.sd I1 f1 f2 rfl rfl⟩, hU.use f1 f2 (fun _ => ⟨0, 0, (f2.at (nRS (ρ := 44) rfl rfl)).trans z011, k12, k11, by decide, Or.inl rfl⟩) kz rfl rfl, ⟨Q, P, hR1.fx f2 rfl, ?_⟩, (lw.fx f1 rfl rfl).fx f2 rfl rfl, ((kp.fx f1 rfl rfl rfl).fx f2 rfl rfl rfl).up⟩
    exact ⟨n, 0, 0, (fun _ => 0), (f2.at (nRS (ρ := 41) rfl rfl)).trans ((f1.at (nRS (ρ := 41) rfl rfl)).trans hn), n8, (f2.at (n7 rfl 5 (by omega) (by omega))).trans z5, k11, (f2.at (n7 rfl 6 (by omega) (by omega))).trans z6, k10, by omega, by omega, fun _ => rfl, fun j hj => absurd hj (Nat.not_lt_zero j), ⟨rfl, fun ρ hρ => by omega, Nat.le_refl _⟩, fun ρ hρ => absurd hρ (Nat.not_lt_zero ρ)⟩
  · refine (e_planC (d := d + 296) (fi := fun _ => 0) (se := fun _ => 0) (th := fun _ => 0) (sn := fun _ => 0) w hn n8 et (by omega) ht0 rfl hR).to ?_
    rintro r m1 ⟨w1, f1, z11, hq, hE⟩
    have g195 : m1.1 195 = m.1 195 := funext fun k => f1.at (nRS (ρ := 21) rfl rfl)
    have eO : MO (pst n) pok (m.1 2) (decide (76 < t)) (minT t 76) 0 (0, 1, 0, 0, (fun _ => 0), (fun _ => 0), (fun _ => 0), (fun _ => 0)) = MO (pst n) pok (m1.1 195) (decide (76 < t)) (minT t 76) 0 (0, 1, 0, 0, (fun _ => 0), (fun _ => 0), (fun _ => 0), (fun _ => 0)) := by
      rw [g195]
      refine MO_ch (fun _ _ S h => pst_ch n8 S h) (fun j hj => h2.2 j ?_)
      have : minT t 76 ≤ t := by unfold minT; split <;> omega
      rw [et, nI_toInt (by omega)]
      omega
    rw [eO] at hq hE
    have k1 : m1.1 187 1 = nI n := (f1.at (nRS (ρ := 23) rfl rfl)).trans hsd
    have k14 : m1.1 187 14 = nI t := (f1.at (nRS (ρ := 21) rfl rfl)).trans ht14
    have hM := e_planM (ad := ad) (d := d + 295) w1 k1 n8 k14 (by omega)
    generalize hO : MO (pst n) pok (m1.1 195) (decide (76 < t)) (minT t 76) 0 (0, 1, 0, 0, (fun _ => 0), (fun _ => 0), (fun _ => 0), (fun _ => 0)) = O at hq hE
    have rel := rd_rel (big := decide (76 < t)) (tx := m1.1 195) (e := minT t 76) (n := n) (O := O) n8 he80 13 0 0 (m1.1 199) 0 (fun _ => 0) (fun _ => 0) (fun _ => 0) (fun _ => 0) (by omega) (by omega) (Nat.zero_le _) (fun j hj => absurd hj (Nat.not_lt_zero j)) ⟨rfl, fun ρ hρ => absurd hρ (Nat.not_lt_zero ρ), Nat.le_refl _⟩ hO
    obtain ⟨ra, rb⟩ := rel
    have go : ∀ v : Int32, r = some (.int v) → (∀ r2 m2, (∃ r' g' np' p' w', rdF (m1.1 195) (minT t 76) n 13 0 0 (m1.1 199) (0, -1) = (r', g', np', (p', w')) ∧ plM m1 t r' g' np' p' w' r2 m2) → r2 = some (.int v) ∧ InvK (KX K0' (c + 1)) m2) → ∃ v : Int32, r = some (.int v) ∧ Ct ad μX12_plan (d + 300) [.ref (ad 187)] m1 (fun r m2 => r = some (.int v) ∧ InvK (KX K0' (c + 1)) m2) := fun v hr h => ⟨v, hr, hM.to (fun r2 m2 h0 => by
      obtain ⟨r', g', np', p', w', hd, -, hP⟩ := h0
      exact h r2 m2 ⟨r', g', np', p', w', hd ht0, hP⟩)⟩
    -- a text that is wrong
    have bad : ∀ q, O = .inl q → Fx (RS [0, 7]) m m1 → PRF m1 P Q → (∀ b k, P ≤ b → b ≤ P + 5 → m1.1 b k = m.1 b k) → ∀ m2, WT m2 → Fx (RS [20, 21, 22, 27]) m1 m2 → (m2.1 187 14).toInt = 0 → InvK (KX K0' (c + 1)) m2 := fun q _ F1 hR1 hc m2 w2 F2 z14 => by
      have e11 : m2.1 1 1 = 0 := (F2.at (nRS (ρ := 0) rfl rfl)).trans z11
      refine ⟨w2, ⟨(h1.fx F1 rfl).fx F2 rfl, TXI.zero (by rw [e11]; rfl) z14, IV.sd I1 F1 F2 rfl rfl⟩, hU.use F1 F2 (fun nx => (nx.fx F1 rfl rfl rfl).fx F2 rfl rfl rfl) kz rfl rfl, ⟨P, Q, hR1.fx F2 rfl, X.fx (fun b k h1 h2 => (F2.at (n7 rfl k (by omega) (by omega))).trans (hc b k h1 h2)) ?_ ?_ ?_ (fun k => ?_)⟩, (lw.fx F1 rfl rfl).fx F2 rfl rfl, ((kp.fx F1 rfl rfl rfl).fx F2 rfl rfl rfl).up⟩
      · exact (F2.at (nRS (ρ := 41) rfl rfl)).trans (F1.at (nRS (ρ := 41) rfl rfl))
      · exact (F2.at (nRS (ρ := 25) rfl rfl)).trans (F1.at (nRS (ρ := 25) rfl rfl))
      · exact (F2.at (nRS (ρ := 25) rfl rfl)).trans (F1.at (nRS (ρ := 25) rfl rfl))
      · exact (F2.at (nRS (ρ := 55) rfl rfl)).trans (F1.at (nRS (ρ := 55) rfl rfl))
    cases O with
    | inl q =>
      obtain ⟨hr, hR1, hc, F1⟩ := hq q rfl
      refine go _ hr ?_
      rintro r2 m2 ⟨r', g', np', p', w', hd, w2, f2, z14, p1, p2, p3⟩
      rw [hd] at ra rb
      dsimp only at ra rb
      by_cases hw : w' = -1
      · obtain ⟨q1, q2, q3, q4, st, us, fi, se, th, sn', hst, h33, h44, hMO, -, -⟩ := rb hw
        obtain ⟨y1, y2⟩ := pl_fin (n := n) (rd := r') (gm := g') (big := decide (76 < t)) (us := us) (fi := fi) (se := se) (th := th) (sn := sn') hst h33 h44
        by_cases hp : p' < t
        · have e := (y1 ((minT_lt q1).mp hp)).symm.trans hMO
          cases e
          obtain ⟨rfl, F2⟩ := p2 hw hp
          exact ⟨rfl, bad _ rfl F1 hR1 hc m2 w2 F2 z14⟩
        · have hn2 : ¬ (p' < minT t 76 ∨ decide (76 < t) = true) := fun q => hp ((minT_lt q1).mpr q)
          have hb : decide (76 < t) = false := by
            cases hd2 : decide (76 < t) with
            | false => rfl
            | true => exact absurd (Or.inr hd2) hn2
          have e := (y2 (fun q => hn2 (Or.inl q)) hb).symm.trans hMO
          cases e
      · obtain ⟨q', hq', e, e2⟩ := ra hw
        cases e
        obtain ⟨rfl, F2⟩ := p1 hw
        exact ⟨by rw [e2], bad _ rfl F1 hR1 hc m2 w2 F2 z14⟩
    | inr S =>
      obtain ⟨st, rd, gm, us, fi, se, th, sn2⟩ := S
      obtain ⟨hr, hR1, z011, ⟨v1, v2, v3, v4⟩, c1, c2, c3, c4, c5, c6, c7, c8⟩ := hE st rd gm us fi se th sn2 rfl
      refine go _ hr ?_
      rintro r2 m2 ⟨r', g', np', p', w', hd, w2, f2, z14, p1, p2, p3⟩
      rw [hd] at ra rb
      dsimp only at ra rb
      by_cases hw : w' = -1
      · obtain ⟨q1, q2, q3, q4, st', us', fi', se', th', sn', hst, h33, h44, hMO, hG, hS⟩ := rb hw
        obtain ⟨y1, y2⟩ := pl_fin (n := n) (rd := r') (gm := g') (big := decide (76 < t)) (us := us') (fi := fi') (se := se') (th := th') (sn := sn') hst h33 h44
        by_cases hp : p' < t
        · have e := (y1 ((minT_lt q1).mp hp)).symm.trans hMO
          cases e
        · have hn2 : ¬ (p' < minT t 76 ∨ decide (76 < t) = true) := fun q => hp ((minT_lt q1).mpr q)
          have hb : decide (76 < t) = false := by
            cases hd2 : decide (76 < t) with
            | false => rfl
            | true => exact absurd (Or.inr hd2) hn2
          have e := (y2 (fun q => hn2 (Or.inl q)) hb).symm.trans hMO
          have e' := Sum.inr.inj e
          have er : r' = rd := congrArg (fun S : PlS => S.2.1) e'
          have eg : g' = gm := congrArg (fun S : PlS => S.2.2.1) e'
          have ef : fi' = fi := congrArg (fun S : PlS => S.2.2.2.2.1) e'
          have es : se' = se := congrArg (fun S : PlS => S.2.2.2.2.2.1) e'
          have eh : th' = th := congrArg (fun S : PlS => S.2.2.2.2.2.2.1) e'
          have en : sn' = sn2 := congrArg (fun S : PlS => S.2.2.2.2.2.2.2) e'
          rw [er, eg, ef, es, eh, en] at hG
          rw [er, eg, en] at hS
          obtain ⟨hr2, k10, k11, k12, r12, g40, rg, k194⟩ := p3 hw hp
          rw [eg] at k10 k194
          rw [er] at k11 hr2
          have e11 : m2.1 1 1 = 0 := (f2.at (nRS (ρ := 0) rfl rfl)).trans z11
          have q7 : ∀ b k, 133 < b → b < 146 → m2.1 b k = m1.1 b k := fun b k h1 h2 => f2.at (n7 rfl k h1 h2)
          have tg : (nI gm).toInt = gm := nI_toInt (by omega)
          refine ⟨hr2, w2, ⟨Or.inr (by rw [k10, tg]; omega), TXI.zero (by rw [e11]; rfl) z14, IV.sd I1 f1 f2 rfl rfl⟩, hU.use f1 f2 (fun _ => ⟨0, rd, (f2.at (nRS (ρ := 44) rfl rfl)).trans z011, k12, k11, by omega, Or.inl rfl⟩) kz rfl rfl, ⟨Q, P, hR1.fx f2 rfl, ?_⟩, (lw.fx f1 rfl rfl).fx f2 rfl rfl, ((kp.fx f1 rfl rfl rfl).fx f2 rfl rfl rfl).up⟩
          exact ⟨n, rd, gm, sn2, (f2.at (nRS (ρ := 41) rfl rfl)).trans ((f1.at (nRS (ρ := 41) rfl rfl)).trans hn), n8, (q7 Q 5 (by omega) (by omega)).trans c2, k11, (q7 Q 6 (by omega) (by omega)).trans c3, k10, by omega, by omega, fun z => by omega, hG.cg k194 (fun j hj => (q7 _ j (by omega) (by omega)).trans (c5 j hj)) (fun j hj => (q7 _ j (by omega) (by omega)).trans (c6 j hj)) (fun j hj => (q7 _ j (by omega) (by omega)).trans (c7 j hj)), hS, fun ρ hρ => (q7 _ ρ (by omega) (by omega)).trans (c8 ρ hρ (by omega))⟩
      · obtain ⟨q', hq', e, e2⟩ := ra hw
        cases e
theorem ob_circle (hU : TRN [7, 44] [20, 25, 32, 52, 55] K0 K0') (c : Nat) : Both ad d μX11_circle μX12_circle [] (InvK (KX K0 c)) (InvK (KX K0' (c + 1))) := fun m I => by
  obtain ⟨w, I1, kz, ⟨P, Q, hR, X⟩, lw, kp⟩ := I
  have X0 := X
  obtain ⟨n, R, g, sn, hn, n8, -⟩ := X0
  have I0 := I1
  obtain ⟨h1, h2, h3, h4, h5⟩ := I0
  have hPQ := hR.2.2
  have hsd : m.1 187 1 = nI n := h3.symm.trans hn
  refine (e_circleC (d := d + 297) w hn n8 hR).to ?_
  rintro r m1 ⟨w1, f1, hR1, h⟩
  have k1 : m1.1 187 1 = nI n := (f1.at (nRS (ρ := 23) rfl rfl)).trans hsd
  have hM := e_circleM (ad := ad) (d := d + 298) w1 k1 n8
  rcases h with ⟨n2, rfl, e⟩ | ⟨n2, rfl, z011, a5, a6, aC, aS⟩
  · refine ⟨_, rfl, hM.to ?_⟩
    rintro r m2 ⟨w2, f2, h2⟩
    rcases h2 with ⟨-, rfl, F2⟩ | ⟨q, -⟩
    · have F1 : Fx (RS []) m m1 := by rw [e]; exact Fx.rf
      exact ⟨rfl, w2, I1.f2 F1 F2 rfl rfl, hU.use F1 F2 (fun nx => (nx.fx F1 rfl rfl rfl).fx F2 rfl rfl rfl) kz rfl rfl, KB.fd c F1 F2 ⟨⟨P, Q, hR, X⟩, lw, kp⟩ rfl rfl⟩
    · omega
  · refine ⟨_, rfl, hM.to ?_⟩
    rintro r m2 ⟨w2, f2, h2'⟩
    rcases h2' with ⟨q, -⟩ | ⟨-, rfl, k11, k12, k10, hMR⟩
    · omega
    · obtain ⟨z, hz⟩ : ∃ z, n + n % 2 = z := ⟨_, rfl⟩
      rw [hz] at a5 a6 aC aS k11 k10 hMR
      have og := cOut_og (n := n) (z := z) (by omega) (z - 1)
      have gp := cOut_pos (n := n) (z := z) n2 hz.symm (z - 1) (by omega)
      have gl := cOut_le (n := n) (z := z) (by omega) (z - 1)
      have tg : (nI (cOut n z (z - 1)).1.1).toInt = (cOut n z (z - 1)).1.1 := nI_toInt (by omega)
      have q7 : ∀ b k, 133 < b → b < 146 → m2.1 b k = m1.1 b k := fun b k h1 h2 => f2.at (n7 rfl k h1 h2)
      refine ⟨by rw [hz], w2, ⟨Or.inr (by rw [k10, tg]; omega), (h2.fx f1 rfl rfl).fx f2 rfl rfl, IV.sd I1 f1 f2 rfl rfl⟩, hU.use f1 f2 (fun _ => ⟨0, z - 1, (f2.at (nRS (ρ := 44) rfl rfl)).trans z011, k12, k11, by omega, Or.inl rfl⟩) kz rfl rfl, ⟨P, Q, hR1.fx f2 rfl, ?_⟩, (lw.fx f1 rfl rfl).fx f2 rfl rfl, ((kp.fx f1 rfl rfl rfl).fx f2 rfl rfl rfl).up⟩
      exact ⟨n, z - 1, (cOut n z (z - 1)).1.1, (cOut n z (z - 1)).2.2, (f2.at (nRS (ρ := 41) rfl rfl)).trans ((f1.at (nRS (ρ := 41) rfl rfl)).trans hn), n8, (q7 P 5 (by omega) (by omega)).trans a5, k11, (q7 P 6 (by omega) (by omega)).trans a6, k10, by omega, by omega, fun z => by omega, (og.gr n8 aC hMR).cg (fun _ _ => rfl) (fun j _ => q7 _ j (by omega) (by omega)) (fun j _ => q7 _ j (by omega) (by omega)) (fun j _ => q7 _ j (by omega) (by omega)), og.sr (by omega), fun ρ hρ => (q7 _ ρ (by omega) (by omega)).trans (aS ρ hρ)⟩
theorem ob_keep (hU : TR [13] [20, 40] K0 K0') (c : Nat) (a : Int32) : Both ad d μX11_keep μX12_keep [.int a] (InvK (KX K0 c)) (InvK (KX K0' (c + 1))) := fun m I => by
  obtain ⟨w, I1, kz, pl, lw, kp⟩ := I
  refine (e_keepC (d := d + 297) w).to ?_
  rintro r m1 (⟨i, hi, hx, rfl, w1, F1, j1, j2, j3, j4, j5, j6, j7⟩ | ⟨hx, rfl, e⟩)
  · have f1 : Fx (RS [13]) m m1 := (Fx.rf (S := RS [13])).tr F1 (KR_13 hi rfl)
    refine ⟨1, rfl, (e_keepM (d := d + 298) w1).to ?_⟩
    rintro r m2 (⟨i', hi', hx', rfl, w2, f2, b1, b2, b3, b4, b5, b6, b7, b8⟩ | ⟨hx', -⟩)
    · have hii : i' = i := ((nI_eq (a := i) (b := i') (by omega) (by omega)).mp (hx.symm.trans hx')).symm
      subst hii
      refine ⟨rfl, w2, I1.f2 f1 f2 rfl rfl, hU.use f1 f2 kz rfl rfl, (pl.fx f1 rfl rfl rfl rfl rfl).fx f2 rfl rfl rfl rfl rfl, (lw.fx f1 rfl rfl).fx f2 rfl rfl, ?_⟩
      obtain ⟨t, ht, h53, hk⟩ := kp
      have g53 : m1.1 187 53 = nI t := (f1.at (nRS (ρ := 45) rfl rfl)).trans h53
      have k53 : m2.1 187 53 = nI t := (f2.at (nRS (ρ := 45) rfl rfl)).trans g53
      have q13 : ∀ b k, 173 ≤ b → b < 187 → m2.1 b k = m1.1 b k := fun b k h1 h2 => f2.at (nRS (ρ := 13) rfl (rg_13 k h1 h2))
      refine ⟨t, by omega, k53, fun j hj => ?_⟩
      by_cases hji : j = i'
      · subst hji
        have e216 : m2.1 216 j = nI t := b2.trans g53
        refine ⟨⟨t, Nat.le_refl _, e216⟩, ⟨fun _ => ⟨by rw [b1]; decide, e216.trans k53.symm⟩, fun _ => ?_⟩, fun _ k hk2 => ?_⟩
        · rw [q13 (173 + 7 * j) 4 (by omega) (by omega), j7]; decide
        · rw [q13 (173 + 7 * j + 6) k (by omega) (by omega), j5 k hk2, b6 k hk2, f1.at (a := 193) (k := k) (nRS (ρ := 47) rfl rfl)]
          exact lw k hk2
      · obtain ⟨⟨s, hs, a1⟩, a2, a3⟩ := hk j hj
        obtain ⟨d1, d2⟩ := b3 j hji
        have c215 : m2.1 215 j = m.1 215 j := d1.trans (f1.at (nRS (ρ := 40) rfl rfl))
        have c216 : m2.1 216 j = m.1 216 j := d2.trans (f1.at (nRS (ρ := 40) rfl rfl))
        have cc : ∀ b k, 173 + 7 * j ≤ b → b ≤ 173 + 7 * j + 6 → m2.1 b k = m.1 b k := fun b k h1 h2 => (q13 b k (by omega) (by omega)).trans (F1.at (by unfold BR; omega))
        refine ⟨⟨s, hs, c216.trans a1⟩, ?_, fun hz k hk2 => ?_⟩
        · rw [cc (173 + 7 * j) 4 (by omega) (by omega), c215, c216, k53, ← h53]; exact a2
        · rw [cc (173 + 7 * j) 4 (by omega) (by omega)] at hz
          rw [cc (173 + 7 * j + 6) k (by omega) (by omega), b8 (71 * j + 65 + k) (by omega), f1.at (a := 214) (k := 71 * j + 65 + k) (nRS (ρ := 40) rfl rfl)]
          exact a3 hz k hk2
    · have hx2 : a.toInt = i := by rw [hx, nI_toInt (by omega)]
      omega
  · have F1 : Fx (RS []) m m1 := by rw [e]; exact Fx.rf
    have w1 : WT m1 := by rw [e]; exact w
    refine ⟨0, rfl, (e_keepM (d := d + 298) w1).to ?_⟩
    rintro r m2 (⟨i', hi', hx', -⟩ | ⟨-, rfl, w2, f2⟩)
    · have : a.toInt = i' := by rw [hx', nI_toInt (by omega)]
      omega
    · exact ⟨rfl, w2, I1.f2 F1 f2 rfl rfl, hU.use F1 f2 kz rfl rfl, KB.fd c F1 f2 ⟨pl, lw, kp⟩ rfl rfl⟩
theorem ob_again (hU : TR [4, 42, 43, 44, 53] [20, 24, 29, 46, 47, 49, 52] K0 K0') (c : Nat) (a : Int32) : Both ad d μX11_again μX12_again [.int a] (InvK (KX K0 c)) (InvK (KX K0' (c + 1))) := fun m I => by
  obtain ⟨w, I1, kz, pl, lw, kp⟩ := I
  have pl0 := pl
  obtain ⟨P, Q, hR, X⟩ := pl0
  have kp0 := kp
  obtain ⟨t, ht, h53, hk⟩ := kp0
  refine (e_againC (d := d + 297) w hR.1).to ?_
  rintro r m1 (⟨i, hi, hx, hz, rfl, w1, f1, j1, j2, j3, j4, j5, j6, j7⟩ | ⟨hx, rfl, e⟩)
  · obtain ⟨-, a2, a3⟩ := hk i hi
    refine ⟨1, rfl, (e_againM (d := d + 298) w1).to ?_⟩
    rintro r m2 (⟨i', hi', hx', hz', rfl, w2, f2, b1, b2, b3, b4, b5⟩ | ⟨hx', -⟩)
    · have hii : i' = i := ((nI_eq (a := i) (b := i') (by omega) (by omega)).mp (hx.symm.trans hx')).symm
      subst hii
      refine ⟨rfl, w2, I1.f2 f1 f2 rfl rfl, hU.use f1 f2 kz rfl rfl, (pl.fx f1 rfl rfl rfl rfl rfl).fx f2 rfl rfl rfl rfl rfl, fun k hk2 => ?_, ((kp.fx f1 rfl rfl rfl).fx f2 rfl rfl rfl).up⟩
      rw [f2.at (a := 4) (k := k) (nRS (ρ := 43) rfl rfl), j5 k hk2, b3 k hk2, f1.at (a := 214) (k := 71 * i' + 65 + k) (nRS (ρ := 40) rfl rfl)]
      exact a3 hz k hk2
    · refine absurd ?_ (hx' i hi hx)
      rw [f1.at (a := 215) (k := i) (nRS (ρ := 40) rfl rfl), f1.at (a := 216) (k := i) (nRS (ρ := 40) rfl rfl), f1.at (a := 187) (k := 53) (nRS (ρ := 45) rfl rfl)]
      exact a2.mp hz
  · have F1 : Fx (RS []) m m1 := by rw [e]; exact Fx.rf
    have w1 : WT m1 := by rw [e]; exact w
    refine ⟨0, rfl, (e_againM (d := d + 298) w1).to ?_⟩
    rintro r m2 (⟨i', hi', hx', hz', -⟩ | ⟨-, rfl, w2, f2⟩)
    · rw [e] at hz'
      exact absurd (hx i' hi' hx') ((hk i' hi').2.1.mpr hz')
    · exact ⟨rfl, w2, I1.f2 F1 f2 rfl rfl, hU.use F1 f2 kz rfl rfl, KB.fd c F1 f2 ⟨pl, lw, kp⟩ rfl rfl⟩
end KBB
end
section
/-! THE LAW'S SETTINGS -/
def lwT (a b : Int32) : Prop := (a = 0 ∧ 0 ≤ b.toInt ∧ b.toInt ≤ 3) ∨ (a = 1 ∧ 1 ≤ b.toInt ∧ b.toInt ≤ 3) ∨ (a = 2 ∧ 0 ≤ b.toInt ∧ b.toInt ≤ 2) ∨ (a = 3 ∧ 0 ≤ b.toInt ∧ b.toInt ≤ 99) ∨ (a = 4 ∧ 0 ≤ b.toInt ∧ b.toInt ≤ 50)
theorem lwT_0 {b : Int32} : lwT 0 b ↔ (0 ≤ b.toInt ∧ b.toInt ≤ 3) := by
  constructor
  · rintro (⟨-, h0, h1⟩ | ⟨q, -⟩ | ⟨q, -⟩ | ⟨q, -⟩ | ⟨q, -⟩)
    · exact ⟨h0, h1⟩
    · exact absurd q (by decide)
    · exact absurd q (by decide)
    · exact absurd q (by decide)
    · exact absurd q (by decide)
  · intro h; exact Or.inl ⟨rfl, h⟩
theorem lwT_1 {b : Int32} : lwT 1 b ↔ (1 ≤ b.toInt ∧ b.toInt ≤ 3) := by
  constructor
  · rintro (⟨q, -⟩ | ⟨-, h0, h1⟩ | ⟨q, -⟩ | ⟨q, -⟩ | ⟨q, -⟩)
    · exact absurd q (by decide)
    · exact ⟨h0, h1⟩
    · exact absurd q (by decide)
    · exact absurd q (by decide)
    · exact absurd q (by decide)
  · intro h; exact Or.inr (Or.inl ⟨rfl, h⟩)
theorem lwT_2 {b : Int32} : lwT 2 b ↔ (0 ≤ b.toInt ∧ b.toInt ≤ 2) := by
  constructor
  · rintro (⟨q, -⟩ | ⟨q, -⟩ | ⟨-, h0, h1⟩ | ⟨q, -⟩ | ⟨q, -⟩)
    · exact absurd q (by decide)
    · exact absurd q (by decide)
    · exact ⟨h0, h1⟩
    · exact absurd q (by decide)
    · exact absurd q (by decide)
  · intro h; exact Or.inr (Or.inr (Or.inl ⟨rfl, h⟩))
theorem lwT_3 {b : Int32} : lwT 3 b ↔ (0 ≤ b.toInt ∧ b.toInt ≤ 99) := by
  constructor
  · rintro (⟨q, -⟩ | ⟨q, -⟩ | ⟨q, -⟩ | ⟨-, h0, h1⟩ | ⟨q, -⟩)
    · exact absurd q (by decide)
    · exact absurd q (by decide)
    · exact absurd q (by decide)
    · exact ⟨h0, h1⟩
    · exact absurd q (by decide)
  · intro h; exact Or.inr (Or.inr (Or.inr (Or.inl ⟨rfl, h⟩)))
theorem lwT_4 {b : Int32} : lwT 4 b ↔ (0 ≤ b.toInt ∧ b.toInt ≤ 50) := by
  constructor
  · rintro (⟨q, -⟩ | ⟨q, -⟩ | ⟨q, -⟩ | ⟨q, -⟩ | ⟨-, h0, h1⟩)
    · exact absurd q (by decide)
    · exact absurd q (by decide)
    · exact absurd q (by decide)
    · exact absurd q (by decide)
    · exact ⟨h0, h1⟩
  · intro h; exact Or.inr (Or.inr (Or.inr (Or.inr (⟨rfl, h⟩))))
theorem lwT_n {a b : Int32} (h : ¬ (0 ≤ a.toInt ∧ a.toInt ≤ 4)) : ¬ lwT a b := by
  rintro (⟨rfl, -⟩ | ⟨rfl, -⟩ | ⟨rfl, -⟩ | ⟨rfl, -⟩ | ⟨rfl, -⟩) <;> exact h (by decide)
section LAW
variable {ad : Nat → Nat} {d : Nat} {m m0 : Wm} {K0 K0' : Wm → Prop}
def lwC (m : Wm) (a b : Int32) (r : Option Value) (m' : Wm) : Prop := WT m' ∧ ((lwT a b ∧ ∃ k, k < 5 ∧ a = nI k ∧ r = some (.int (m.1 4 k)) ∧ m' = uI m 4 k b) ∨ (¬ lwT a b ∧ r = some (.int (-1)) ∧ m' = m))
theorem e_lawC {a b : Int32} (w : WT m) : Ct ad μX11_law (d + 1) [.ref (ad 0), .int a, .int b] m (lwC m a b) := by
  have ok : ∀ k, k < 5 → a = nI k → lwT a b → ∃ v2 : Int32, some (Value.int 1) = some (.int v2) ∧ ((¬ v2 = 0 → (vp_in a 5 ∧ (vp_in a 5 ∧ lwC m a b (some (.int (m.1 4 a.toNatClampNeg))) (uI m 4 a.toNatClampNeg b)))) ∧ (v2 = 0 → lwC m a b (some (.int (-1))) m)) := fun k hk ha hl => by
    refine ⟨1, rfl, fun _ => ?_, fun z => absurd z (by decide)⟩
    rw [ha, nI_clamp (by omega)]
    exact ⟨nat_in hk (by decide), nat_in hk (by decide), w.n rfl, Or.inl ⟨ha ▸ hl, k, hk, rfl, rfl, rfl⟩⟩
  have no : ¬ lwT a b → ∃ v2 : Int32, some (Value.int 0) = some (.int v2) ∧ ((¬ v2 = 0 → (vp_in a 5 ∧ (vp_in a 5 ∧ lwC m a b (some (.int (m.1 4 a.toNatClampNeg))) (uI m 4 a.toNatClampNeg b)))) ∧ (v2 = 0 → lwC m a b (some (.int (-1))) m)) := fun hl => ⟨0, rfl, fun z => absurd rfl z, fun _ => ⟨w, Or.inr ⟨hl, rfl, rfl⟩⟩⟩
  exact v_X11_law (v_X1_allows ⟨fun h => by
    rw [h] at ok no ⊢
    exact ⟨fun c => no (fun q => by have := y_ltr (n := 0) rfl c; have := lwT_0.mp q; omega), fun c => ⟨fun c2 => no (fun q => by have := y_ltl (n := 3) rfl c2; have := lwT_0.mp q; omega), fun c2 => ok 0 (by decide) rfl (lwT_0.mpr ⟨by have := y_nltr (n := 0) rfl c; omega, by have := y_nltl (n := 3) rfl c2; omega⟩)⟩⟩,
    fun h => by
    rw [h] at ok no ⊢
    exact ⟨fun c => no (fun q => by have := y_ltr (n := 1) rfl c; have := lwT_1.mp q; omega), fun c => ⟨fun c2 => no (fun q => by have := y_ltl (n := 3) rfl c2; have := lwT_1.mp q; omega), fun c2 => ok 1 (by decide) rfl (lwT_1.mpr ⟨by have := y_nltr (n := 1) rfl c; omega, by have := y_nltl (n := 3) rfl c2; omega⟩)⟩⟩,
    fun h => by
    rw [h] at ok no ⊢
    exact ⟨fun c => no (fun q => by have := y_ltr (n := 0) rfl c; have := lwT_2.mp q; omega), fun c => ⟨fun c2 => no (fun q => by have := y_ltl (n := 2) rfl c2; have := lwT_2.mp q; omega), fun c2 => ok 2 (by decide) rfl (lwT_2.mpr ⟨by have := y_nltr (n := 0) rfl c; omega, by have := y_nltl (n := 2) rfl c2; omega⟩)⟩⟩,
    fun h => by
    rw [h] at ok no ⊢
    exact ⟨fun c => no (fun q => by have := y_ltr (n := 0) rfl c; have := lwT_3.mp q; omega), fun c => ⟨fun c2 => no (fun q => by have := y_ltl (n := 99) rfl c2; have := lwT_3.mp q; omega), fun c2 => ok 3 (by decide) rfl (lwT_3.mpr ⟨by have := y_nltr (n := 0) rfl c; omega, by have := y_nltl (n := 99) rfl c2; omega⟩)⟩⟩,
    fun h => by
    rw [h] at ok no ⊢
    exact ⟨fun c => no (fun q => by have := y_ltr (n := 0) rfl c; have := lwT_4.mp q; omega), fun c => ⟨fun c2 => no (fun q => by have := y_ltl (n := 50) rfl c2; have := lwT_4.mp q; omega), fun c2 => ok 4 (by decide) rfl (lwT_4.mpr ⟨by have := y_nltr (n := 0) rfl c; omega, by have := y_nltl (n := 50) rfl c2; omega⟩)⟩⟩,
    fun n0 n1 n2 n3 n4 => no (fun q => by
      rcases q with ⟨q, -⟩ | ⟨q, -⟩ | ⟨q, -⟩ | ⟨q, -⟩ | ⟨q, -⟩
      · exact n0 q
      · exact n1 q
      · exact n2 q
      · exact n3 q
      · exact n4 q)⟩)
def lwM (m : Wm) (a b : Int32) (r : Option Value) (m' : Wm) : Prop := WT m' ∧ Fx (RS [20, 47]) m m' ∧ ((lwT a b ∧ ∃ k, k < 5 ∧ a = nI k ∧ r = some (.int (m.1 193 k)) ∧ ∀ j, m'.1 193 j = if j = k then b else m.1 193 j) ∨ (¬ lwT a b ∧ r = some (.int (-1)) ∧ ∀ j, m'.1 193 j = m.1 193 j))
theorem e_lawM {a b : Int32} (w : WT m) : Ct ad μX12_law (d + 2) [.ref (ad 187), .int a, .int b] m (lwM m a b) := by
  have w0 : WT (uI m 187 17 0) := w.n rfl
  have f0 : Fx (RS [20, 47]) m (uI m 187 17 0) := Fx.rf.i rfl
  have z0 : (0 : Int32).toInt = 0 := rfl
  have z4 : (4 : Int32).toInt = 4 := rfl
  have H : ∀ (lo hi : Int32), (0 ≤ a.toInt ∧ a.toInt ≤ 4 → (lwT a b ↔ lo.toInt ≤ b.toInt ∧ b.toInt ≤ hi.toInt)) → AW ad E0 μX12_law (d + 1 + 1) (lwM m a b) 50 [(0, .ref (ad 187)), (1, .int a), (2, .int b), (3, .int lo)] [.int hi] (uI m 187 17 0) := by
    intro lo hi hl
    refine g_X12_law_50 ((in_i (lo := 0) (hi := 4) rfl rfl).to ?_)
    rintro _ m' ⟨eq, rfl⟩
    obtain rfl := eq.symm
    by_cases ha : (0 : Int32) ≤ a ∧ a ≤ 4
    · have a0 := z_le ha.1
      have a4 := z_le ha.2
      have hl2 := hl ⟨by omega, by omega⟩
      refine ⟨1, by rw [if_pos ha], fun z => absurd z (by decide), fun _ => (in_i (lo := lo) (hi := hi) rfl rfl).to ?_⟩
      rintro _ m' ⟨eq, rfl⟩
      obtain rfl := eq.symm
      by_cases hb : lo ≤ b ∧ b ≤ hi
      · obtain ⟨k, hk, hak⟩ := zn_of (x := a) (by omega)
        have ta : a.toInt = k := by rw [hak, nI_toInt hk]
        have hk5 : k < 5 := by omega
        have hT : lwT a b := hl2.mpr ⟨z_le hb.1, z_le hb.2⟩
        refine ⟨1, by rw [if_pos hb], fun _ => ?_, fun z => absurd z (by decide)⟩
        rw [hak, nI_clamp (by omega)]
        refine ⟨nat_in hk5 (by decide), nat_in hk5 (by decide), w0.n rfl, f0.i rfl, Or.inl ⟨hak ▸ hT, k, hk5, rfl, rfl, fun j => ?_⟩⟩
        by_cases hj : j = k
        · rw [hj, if_pos rfl]; exact u_eq
        · rw [if_neg hj]; exact u_ne (fun q => hj q.2)
      · exact ⟨0, by rw [if_neg hb], fun z => absurd rfl z, fun _ => ⟨w0, f0, Or.inr ⟨fun q => hb ⟨(fa_le _ _).mpr (hl2.mp q).1, (fa_le _ _).mpr (hl2.mp q).2⟩, rfl, fun _ => rfl⟩⟩⟩
    · refine ⟨0, by rw [if_neg ha], fun _ => ⟨w0, f0, Or.inr ⟨lwT_n (fun q => ha ⟨(fa_le _ _).mpr (by omega), (fa_le _ _).mpr (by omega)⟩), rfl, fun _ => rfl⟩⟩, fun z => absurd rfl z⟩
  refine v_X12_law ⟨fun c1 => g_X12_law_15 ⟨fun h => H 0 3 (fun _ => by rw [h]; exact lwT_0), fun n0 => ⟨fun n1 => ⟨fun n2 => ⟨fun n3 => H 0 50 (fun q => ?_), fun h => H 0 99 (fun _ => by rw [h]; exact lwT_3)⟩, fun h => H 0 2 (fun _ => by rw [h]; exact lwT_2)⟩, fun h => absurd h c1⟩⟩, fun c1 => g_X12_law_15 ⟨fun h => ?_, fun n0 => ⟨fun n1 => absurd c1 n1, fun h => H 1 3 (fun _ => by rw [h]; exact lwT_1)⟩⟩⟩
  · have h4 : a = 4 := by
      have q0 := y_ner (n := 0) rfl n0
      have q1 := y_ner (n := 1) rfl n1
      have q2 := y_ner (n := 2) rfl n2
      have q3 := y_ner (n := 3) rfl n3
      exact (fa_eq _ _).mpr (by omega)
    rw [h4]
    exact lwT_4
  · rw [c1] at h
    exact absurd h (by decide)
theorem ob_law (hU : TR [43] [20, 47] K0 K0') (c : Nat) (a b : Int32) : Both ad d μX11_law μX12_law [.int a, .int b] (InvK (KX K0 c)) (InvK (KX K0' (c + 1))) := fun m I => by
  obtain ⟨w, I1, kz, pl, lw, kp⟩ := I
  refine (e_lawC (d := d + 299) w).to ?_
  rintro r m1 ⟨w1, ⟨hT, k, hk, hak, rfl, e⟩ | ⟨hT, rfl, e⟩⟩
  · have f1 : Fx (RS [43]) m m1 := by rw [e]; exact Fx.rf.i rfl
    refine ⟨_, rfl, (e_lawM (d := d + 298) w1).to ?_⟩
    rintro r m2 ⟨w2, f2, ⟨-, k', hk', hak', rfl, h⟩ | ⟨hT2, -⟩⟩
    · have hkk : k' = k := ((nI_eq (a := k) (b := k') (by omega) (by omega)).mp (hak.symm.trans hak')).symm
      subst hkk
      have e193 : ∀ j, m1.1 193 j = m.1 193 j := fun j => f1.at (nRS (ρ := 47) rfl rfl)
      refine ⟨by rw [e193 k', lw k' hk], w2, I1.f2 f1 f2 rfl rfl, hU.use f1 f2 kz rfl rfl, (pl.fx f1 rfl rfl rfl rfl rfl).fx f2 rfl rfl rfl rfl rfl, fun j hj => ?_, ((kp.fx f1 rfl rfl rfl).fx f2 rfl rfl rfl).up⟩
      rw [f2.at (a := 4) (k := j) (nRS (ρ := 43) rfl rfl), h j, e193 j, e]
      by_cases hj2 : j = k'
      · rw [hj2, if_pos rfl]; exact u_eq
      · rw [if_neg hj2]; exact (u_ne (fun q => hj2 q.2)).trans (lw j hj)
    · exact absurd hT hT2
  · have F1 : Fx (RS []) m m1 := by rw [e]; exact Fx.rf
    refine ⟨_, rfl, (e_lawM (d := d + 298) w1).to ?_⟩
    rintro r m2 ⟨w2, f2, ⟨hT2, -⟩ | ⟨-, rfl, h⟩⟩
    · exact absurd hT2 hT
    · refine ⟨rfl, w2, I1.f2 F1 f2 rfl rfl, hU.use F1 f2 kz rfl rfl, (pl.fx F1 rfl rfl rfl rfl rfl).fx f2 rfl rfl rfl rfl rfl, fun j hj => ?_, ((kp.fx F1 rfl rfl rfl).fx f2 rfl rfl rfl).up⟩
      rw [f2.at (a := 4) (k := j) (nRS (ρ := 43) rfl rfl), h j, e]
      exact lw j hj
/-- laws() gives back the setting that it found -/
theorem lawsC_l : ∀ (j : Nat) (m : Wm) (x1 x2 x3 : Int32) (q : Nat), q + j = 4 → WT m → Fx (RS [2, 5, 9, 14, 43]) m0 m → 0 ≤ x1.toInt → x1.toInt ≤ 50 → 0 ≤ x3.toInt → x3.toInt ≤ 3 → (∀ k, k ≠ 0 → m.1 4 k = m0.1 4 k) → x2 = m0.1 4 0 →
    AW ad E0 μX11_laws (d + 6) (fun r m' => WT m' ∧ Fx (RS [2, 5, 9, 14, 43]) m0 m' ∧ (∃ v : Int32, r = some (.int v)) ∧ ∀ k, m'.1 4 k = m0.1 4 k) 37 [(0, .ref (ad 0)), (1, .int x1), (2, .int x2), (3, .int x3), (4, .int (nI q))] [] m := by
  have e00 : (0 : Int32).toNatClampNeg = 0 := rfl
  intro j
  induction j with
  | zero =>
    intro m x1 x2 x3 q hq w f a0 a1 b0 b1 hk hx
    obtain rfl : q = 4 := hq
    refine g_X11_laws_37 ⟨fun _ => ⟨(w.n rfl).t rfl (by decide) (by decide), (f.i rfl).i rfl, ⟨_, rfl⟩, fun k => ?_⟩, fun c => absurd (by decide) c⟩
    rw [e00]
    refine (u_ne (by omega)).trans ?_
    by_cases h : k = 0
    · rw [h, hx]; exact u_eq
    · exact (u_ne (fun q => h q.2)).trans (hk k h)
  | succ j ih =>
    intro m x1 x2 x3 q hq w f a0 a1 b0 b1 hk hx
    have tq : (nI q).toInt = q := nI_toInt (by omega)
    refine g_X11_laws_37 ⟨fun c => absurd ((le_l 4 4 rfl (by decide) (by omega)).mp c) (by omega), fun _ => ?_⟩
    rw [e00]
    have w7 : WT (uI m 4 0 (nI q)) := w.n rfl
    have f7 : Fx (RS [2, 5, 9, 14, 43]) m0 (uI m 4 0 (nI q)) := f.i rfl
    refine (s_X11_playAhead w7 (by omega) (by omega)).to ?_
    rintro _ m1 ⟨w_m1, g8, rfl⟩
    refine ⟨rfl, (s_X1_total w_m1 SS_26).to ?_⟩
    rintro _ m2 ⟨w_m2, g9, v3, rfl⟩
    have f_m2 : Fx (RS [2, 5, 9, 14, 43]) m0 m2 := (f7.tr g8 (RS_sub rfl)).tr g9 (RS_sub rfl)
    have e4 : ∀ k, k ≠ 0 → m2.1 4 k = m0.1 4 k := fun k h => (g9.at (nRS (ρ := 43) rfl rfl)).trans ((g8.at (nRS (ρ := 43) rfl rfl)).trans ((u_ne (fun q => h q.2)).trans (hk k h)))
    rw [nI_1]
    exact ⟨v3, rfl, vpi (by omega) (by omega), vpi (by omega) (by omega), vpi (by omega) (by omega), fun _ => ih _ _ _ _ (q + 1) (by omega) w_m2.l (f_m2.l rfl) a0 a1 b0 b1 e4 hx, fun _ => ih _ _ _ _ (q + 1) (by omega) w_m2.l (f_m2.l rfl) a0 a1 (by omega) (by omega) e4 hx⟩
theorem e_lawsC {x1 : Int32} (w : WT m) : Ct ad μX11_laws (d + 6) [.ref (ad 0), .int x1] m (fun r m' => WT m' ∧ Fx (RS [2, 5, 9, 14, 43]) m m' ∧ (∃ v : Int32, r = some (.int v)) ∧ ∀ k, m'.1 4 k = m.1 4 k) := by
  have nn : ∀ v : Int32, WT m ∧ Fx (RS [2, 5, 9, 14, 43]) m m ∧ (∃ v' : Int32, some (Value.int v) = some (.int v')) ∧ ∀ k, m.1 4 k = m.1 4 k := fun v => ⟨w, Fx.rf, ⟨v, rfl⟩, fun _ => rfl⟩
  obtain ⟨r1, e9, q10⟩ := w.r09
  refine v_X11_laws ⟨fun _ => nn _, fun c => ⟨fun _ => nn _, fun c2 => ⟨r1, e9, Pl_of q10, fun _ => ?_, fun _ => nn _⟩⟩⟩
  exact lawsC_l (m0 := m) 4 m _ _ 0 0 (by decide) w Fx.rf (y_nltr (n := 0) rfl c) (y_nltl (n := 50) rfl c2) (by decide) (by decide) (fun _ _ => rfl) rfl
theorem lawsM_l : ∀ (j : Nat) (m : Wm) (x1 x2 x3 x4 : Int32) (q : Nat), q + j = 4 → WT m → Fx (RS [20, 22, 24, 26, 28, 29, 30, 31, 47, 49]) m0 m → 0 ≤ x1.toInt → x1.toInt ≤ 50 → 1 ≤ (m.1 187 11).toInt → (m.1 187 16).toInt = q → (∀ k, k ≠ 0 → m.1 193 k = m0.1 193 k) → x2 = m0.1 193 0 →
    AW ad E0 μX12_laws (d + 172) (fun r m' => WT m' ∧ Fx (RS [20, 22, 24, 26, 28, 29, 30, 31, 47, 49]) m0 m' ∧ (∃ v : Int32, r = some (.int v)) ∧ ∀ k, m'.1 193 k = m0.1 193 k) 55 [(0, .ref (ad 187)), (1, .int x1), (2, .int x2), (3, .int x3), (4, .int x4), (5, .int (nI q))] [] m := by
  have e00 : (0 : Int32).toNatClampNeg = 0 := rfl
  intro j
  induction j with
  | zero =>
    intro m x1 x2 x3 x4 q hq w f a0 a1 h11 h16 hk hx
    obtain rfl : q = 4 := hq
    refine g_X12_laws_55 ⟨fun _ => ⟨w.n rfl, f.i rfl, ⟨_, rfl⟩, fun k => ?_⟩, fun c => absurd (by decide) c⟩
    rw [e00]
    by_cases h : k = 0
    · rw [h, hx]; exact u_eq
    · exact (u_ne (fun q => h q.2)).trans (hk k h)
  | succ j ih =>
    intro m x1 x2 x3 x4 q hq w f a0 a1 h11 h16 hk hx
    refine g_X12_laws_55 ⟨fun c => absurd ((le_l 4 4 rfl (by decide) (by omega)).mp c) (by omega), fun _ => ?_⟩
    rw [e00]
    have w6 : WT (uI m 193 0 (nI q)) := w.n rfl
    have f6 : Fx (RS [20, 22, 24, 26, 28, 29, 30, 31, 47, 49]) m0 (uI m 193 0 (nI q)) := f.i rfl
    have r7 := w.at (a := 187) (k := 11) rfl
    refine (s_X12_goRounds w6 (by omega) (by omega) (by show 1 ≤ ((m.1 187 11)).toInt; omega)).to ?_
    rintro _ m1 ⟨w_m1, g8, rfl⟩
    refine ⟨rfl, (s_X12_sumOfAll w_m1).to ?_⟩
    rintro _ m2 ⟨w_m2, g14, v3, rfl⟩
    refine ⟨v3, rfl, (s_X12_bring_202 w_m2 (by show (0 : Int) ≤ (0 : Int); omega) (by show (0 : Int) ≤ (0 : Int); omega)).to ?_⟩
    rintro _ m4 ⟨w_m4, g20, rfl⟩
    have q16 : (m4.1 187 16).toInt = q := by
      have e1 : m4.1 187 16 = m.1 187 16 := (g20.at (by decide)).trans ((g14.at (by decide)).trans ((g8.at (by decide)).trans (u_ne (by omega))))
      rw [e1]; exact h16
    refine ⟨rfl, (s_X12_tell w_m4 (by omega)).to ?_⟩
    rintro _ m5 ⟨w_m5, g27, rfl, p28⟩
    have f_m5 : Fx (RS [20, 22, 24, 26, 28, 29, 30, 31, 47, 49]) m0 m5 := (((f6.tr g8 (RS_sub rfl)).tr g14 (RS_sub rfl)).tr g20 (RS_sub rfl)).tr g27 (RS_sub rfl)
    have q11 : 1 ≤ (m5.1 187 11).toInt := by
      have e1 : m5.1 187 11 = m.1 187 11 := (g27.at (by decide)).trans ((g20.at (by decide)).trans ((g14.at (by decide)).trans ((g8.at (by decide)).trans (u_ne (by omega)))))
      rw [e1]; exact h11
    have e4 : ∀ k, k ≠ 0 → m5.1 193 k = m0.1 193 k := fun k h => (g27.at (nRS (ρ := 47) rfl rfl)).trans ((g20.at (nRS (ρ := 47) rfl rfl)).trans ((g14.at (nRS (ρ := 47) rfl rfl)).trans ((g8.at (nRS (ρ := 47) rfl rfl)).trans ((u_ne (fun q => h q.2)).trans (hk k h)))))
    have p29 : (m5.1 187 16).toInt = (m4.1 187 16).toInt + 1 := p28
    rw [nI_1]
    exact ⟨rfl, fun _ => ih _ _ _ _ _ (q + 1) (by omega) w_m5 f_m5 a0 a1 q11 (by omega) e4 hx, fun _ => ⟨fun _ => ih _ _ _ _ _ (q + 1) (by omega) w_m5 f_m5 a0 a1 q11 (by omega) e4 hx, fun _ => ih _ _ _ _ _ (q + 1) (by omega) w_m5 f_m5 a0 a1 q11 (by omega) e4 hx⟩⟩
theorem e_lawsM {x1 : Int32} (w : WT m) : Ct ad μX12_laws (d + 172) [.ref (ad 187), .int x1] m (fun r m' => WT m' ∧ Fx (RS [20, 22, 24, 26, 28, 29, 30, 31, 47, 49]) m m' ∧ (∃ v : Int32, r = some (.int v)) ∧ ∀ k, m'.1 193 k = m.1 193 k) := by
  have w0 : WT (uI m 187 17 0) := w.n rfl
  have f0 : Fx (RS [20, 22, 24, 26, 28, 29, 30, 31, 47, 49]) m (uI m 187 17 0) := Fx.rf.i rfl
  have nn : ∀ v : Int32, WT (uI m 187 17 0) ∧ Fx (RS [20, 22, 24, 26, 28, 29, 30, 31, 47, 49]) m (uI m 187 17 0) ∧ (∃ v' : Int32, some (Value.int v) = some (.int v')) ∧ ∀ k, (uI m 187 17 0).1 193 k = m.1 193 k := fun v => ⟨w0, f0, ⟨v, rfl⟩, fun _ => rfl⟩
  have z0 : (0 : Int32).toInt = 0 := rfl
  have z50 : (50 : Int32).toInt = 50 := rfl
  refine v_X12_laws ((in_i (lo := 0) (hi := 50) rfl rfl).to ?_)
  rintro _ m' ⟨eq, rfl⟩
  obtain rfl := eq.symm
  by_cases hc : (0 : Int32) ≤ x1 ∧ x1 ≤ 50
  · have a0 := z_le hc.1
    have a1 := z_le hc.2
    refine ⟨1, by rw [if_pos hc], fun z => absurd z (by decide), fun _ => ⟨fun h11 => ?_, fun _ => nn _⟩⟩
    refine (s_X12_lay_202 w0 (by show (0 : Int) ≤ (0 : Int); omega) (by show (0 : Int) ≤ (0 : Int); omega)).to ?_
    rintro _ m3 ⟨w_m3, g19, rfl⟩
    have r11 := w0.at (a := 187) (k := 11) rfl
    have h11' := y_ner (n := 0) rfl h11
    have q11 : m3.1 187 11 = (uI m 187 17 0).1 187 11 := g19.at (by decide)
    have c193 : ∀ k, m3.1 193 k = m.1 193 k := fun k => g19.at (nRS (ρ := 47) rfl rfl)
    refine ⟨rfl, lawsM_l (m0 := m) 4 _ _ _ 0 0 0 (by decide) (w_m3.t rfl (by decide) (by decide)) ((f0.tr g19 (RS_sub rfl)).i rfl) (by omega) (by omega) ?_ rfl (fun k _ => c193 k) rfl⟩
    show 1 ≤ (m3.1 187 11).toInt
    rw [q11]
    omega
  · exact ⟨0, by rw [if_neg hc], fun _ => nn _, fun z => absurd rfl z⟩
theorem ob_laws (hU : TR [2, 5, 9, 14, 43] [20, 22, 24, 26, 28, 29, 30, 31, 47, 49] K0 K0') (c : Nat) (a : Int32) : BothW ad d μX11_laws μX12_laws [.int a] (InvK (KX K0 c)) (InvK (KX K0' (c + 1))) := fun m I => by
  obtain ⟨w, I1, kz, pl, lw, kp⟩ := I
  refine (e_lawsC (d := d + 294) w).to ?_
  rintro r m1 ⟨w1, f1, ⟨v, rfl⟩, h1⟩
  refine ⟨⟨_, rfl⟩, (e_lawsM (d := d + 128) w1).to ?_⟩
  rintro r m2 ⟨w2, f2, ⟨v2, rfl⟩, h2⟩
  refine ⟨⟨_, rfl⟩, w2, I1.f2 f1 f2 rfl rfl, hU.use f1 f2 kz rfl rfl, (pl.fx f1 rfl rfl rfl rfl rfl).fx f2 rfl rfl rfl rfl rfl, fun k hk => ?_, ((kp.fx f1 rfl rfl rfl).fx f2 rfl rfl rfl).up⟩
  rw [f2.at (a := 4) (k := k) (nRS (ρ := 43) rfl rfl), h1 k, h2 k, f1.at (a := 193) (k := k) (nRS (ρ := 47) rfl rfl)]
  exact lw k hk
end LAW
end
section
/-! WINS, HOPES: whether there is an answer -/
def wnOK (n R : Nat) (x1 x2 x3 : Int32) : Prop := (0 ≤ x1.toInt ∧ x1.toInt < n) ∧ (1 ≤ x2.toInt ∧ x2.toInt ≤ 6) ∧ (0 ≤ x3.toInt ∧ x3.toInt ≤ x2.toInt) ∧ R ≠ 0
def hpOK (R : Nat) (x1 : Int32) : Prop := (1 ≤ x1.toInt ∧ x1.toInt ≤ 6) ∧ R ≠ 0
set_option maxHeartbeats 4000000 in
theorem l_wins0 {ad : Nat → Nat} {d : Nat} {m0 : Wm} {Q : Option Value → Wm → Prop} (hQ : ∀ m', WT m' → Fx (RS [2, 9, 12, 14]) m0 m' → Q (some (.int 0)) m') : ∀ n : Nat, (∀ (m : Wm) (x1 x2 x3 x6 : Int32) (y4 : Int64), WT m → Fx (RS [2, 9, 12, 14]) m0 m → (0 : Int) ≤ x1.toInt → x1.toInt ≤ (7 : Int) → (1 : Int) ≤ x2.toInt → x2.toInt ≤ (6 : Int) → (0 : Int) ≤ x6.toInt → x6.toInt ≤ (64 : Int) → 64 - x6.toInt < (n : Int) → AW ad E0 μX11_wins (d + 7) Q 49 [(0, .ref (ad 0)), (1, .int x1), (2, .int x2), (3, .int x3), (4, .long y4), (6, .int x6)] [] m) := by
  intro n
  induction n with
  | zero =>
    intros
    exfalso
    omega
  | succ n ih =>
    intro m x1 x2 x3 x6 y4 w f j1 j2 j3 j4 j5 j6 hn
    refine g_X11_wins_49  ?_
    refine ⟨?_, ?_⟩
    · intro c1
      have t2 := t_shl1 (x := x2) (by omega) (by omega)
      have k3 := z_le c1
      refine (s_X11_allChances w (by show (0 : Int) ≤ (x2).toInt; omega) (by show (x2).toInt ≤ (6 : Int); omega)).to ?_
      rintro _ m1 ⟨w_m1, g4, w2, rfl⟩
      have f_m1 : Fx (RS [2, 9, 12, 14]) m0 m1 := f.tr g4 (RS_sub rfl)
      refine ⟨w2, rfl, ?_⟩
      refine (s_X11_tellFraction w_m1).to ?_
      rintro _ m3 ⟨w_m3, g5, rfl⟩
      have f_m3 : Fx (RS [2, 9, 12, 14]) m0 m3 := f_m1.tr g5 (RS_sub rfl)
      refine ⟨rfl, ?_⟩
      exact hQ _ w_m3 f_m3
    · intro c6
      have t7 := t_shl1 (x := x2) (by omega) (by omega)
      have k8 := z_nle c6
      obtain ⟨r4, e9, q10⟩ := w.r09
      refine ⟨r4, e9, Pl_of q10, ?_⟩
      refine (s_X7_follow w q10 (by show (0 : Int) ≤ (x2).toInt; omega) (by show (x2).toInt ≤ (6 : Int); omega)).to ?_
      rintro _ m5 ⟨w_m5, g11, w6, rfl⟩
      have f_m5 : Fx (RS [2, 9, 12, 14]) m0 m5 := f.tr g11 (RS_sub rfl)
      refine ⟨w6, rfl, ?_⟩
      refine ⟨?_, ?_⟩
      · intro c12
        have t13 := ti_addc (x := x6) (y := (1 : Int32)) (c := 1) rfl (by omega)
        exact ih _ _ _ _ _ _ w_m5 f_m5 (by show (0 : Int) ≤ (x1).toInt; omega) (by show (x1).toInt ≤ (7 : Int); omega) (by show (1 : Int) ≤ (x2).toInt; omega) (by show (x2).toInt ≤ (6 : Int); omega) (by show (0 : Int) ≤ ((x6 + (1 : Int32))).toInt; omega) (by show ((x6 + (1 : Int32))).toInt ≤ (64 : Int); omega) (by show 64 - ((x6 + (1 : Int32))).toInt < _; omega)
      · intro c14
        refine ⟨?_, ?_⟩
        · exact vpi (by omega) (by omega)
        · refine ⟨?_, ?_⟩
          · intro c15
            have k16 := z_ne c15
            have t17 := ti_addc (x := x6) (y := (1 : Int32)) (c := 1) rfl (by omega)
            exact ih _ _ _ _ _ _ w_m5 f_m5 (by show (0 : Int) ≤ (x1).toInt; omega) (by show (x1).toInt ≤ (7 : Int); omega) (by show (1 : Int) ≤ (x2).toInt; omega) (by show (x2).toInt ≤ (6 : Int); omega) (by show (0 : Int) ≤ ((x6 + (1 : Int32))).toInt; omega) (by show ((x6 + (1 : Int32))).toInt ≤ (64 : Int); omega) (by show 64 - ((x6 + (1 : Int32))).toInt < _; omega)
          · intro c18
            have k19 := z_eq c18
            have t20 := ti_addc (x := x6) (y := (1 : Int32)) (c := 1) rfl (by omega)
            exact ih _ _ _ _ _ _ w_m5 f_m5 (by show (0 : Int) ≤ (x1).toInt; omega) (by show (x1).toInt ≤ (7 : Int); omega) (by show (1 : Int) ≤ (x2).toInt; omega) (by show (x2).toInt ≤ (6 : Int); omega) (by show (0 : Int) ≤ ((x6 + (1 : Int32))).toInt; omega) (by show ((x6 + (1 : Int32))).toInt ≤ (64 : Int); omega) (by show 64 - ((x6 + (1 : Int32))).toInt < _; omega)
set_option maxHeartbeats 4000000 in
theorem l_hopes0 {ad : Nat → Nat} {d : Nat} {m0 : Wm} {Q : Option Value → Wm → Prop} (hQ : ∀ m', WT m' → Fx (RS [2, 9, 12, 14]) m0 m' → Q (some (.int 0)) m') : ∀ n : Nat, (∀ (m : Wm) (x1 x4 x5 x6 : Int32) (y2 : Int64), WT m → Fx (RS [2, 9, 12, 14]) m0 m → (1 : Int) ≤ x1.toInt → x1.toInt ≤ (6 : Int) → (0 : Int) ≤ x6.toInt → x6.toInt ≤ (64 : Int) → 64 - x6.toInt < (n : Int) → AW ad E0 μX11_hopes (d + 7) Q 36 [(0, .ref (ad 0)), (1, .int x1), (2, .long y2), (4, .int x4), (5, .int x5), (6, .int x6)] [] m) := by
  intro n
  induction n with
  | zero =>
    intros
    exfalso
    omega
  | succ n ih =>
    intro m x1 x4 x5 x6 y2 w f j1 j2 j3 j4 hn
    refine g_X11_hopes_36  ?_
    refine ⟨?_, ?_⟩
    · intro c1
      have t2 := t_shl1 (x := x1) (by omega) (by omega)
      have k3 := z_le c1
      refine (s_X11_allChances w (by show (0 : Int) ≤ (x1).toInt; omega) (by show (x1).toInt ≤ (6 : Int); omega)).to ?_
      rintro _ m1 ⟨w_m1, g4, w2, rfl⟩
      have f_m1 : Fx (RS [2, 9, 12, 14]) m0 m1 := f.tr g4 (RS_sub rfl)
      refine ⟨w2, rfl, ?_⟩
      refine (s_X11_tellFraction w_m1).to ?_
      rintro _ m3 ⟨w_m3, g5, rfl⟩
      have f_m3 : Fx (RS [2, 9, 12, 14]) m0 m3 := f_m1.tr g5 (RS_sub rfl)
      refine ⟨rfl, ?_⟩
      have w6 : WT (uL m3 150 ((2 : Int32).toNatClampNeg) x4.toInt64) := w_m3.l
      have f6 : Fx (RS [2, 9, 12, 14]) m0 (uL m3 150 ((2 : Int32).toNatClampNeg) x4.toInt64) := f_m3.l rfl
      have w7 : WT (uL (uL m3 150 ((2 : Int32).toNatClampNeg) x4.toInt64) 150 ((3 : Int32).toNatClampNeg) x5.toInt64) := w6.l
      have f7 : Fx (RS [2, 9, 12, 14]) m0 (uL (uL m3 150 ((2 : Int32).toNatClampNeg) x4.toInt64) 150 ((3 : Int32).toNatClampNeg) x5.toInt64) := f6.l rfl
      have w8 : WT (uI (uL (uL m3 150 ((2 : Int32).toNatClampNeg) x4.toInt64) 150 ((3 : Int32).toNatClampNeg) x5.toInt64) 0 18 (4 : Int32)) := w7.t rfl (by show (0 : Int) ≤ (4 : Int); omega) (by show (4 : Int) ≤ 10; omega)
      have f8 : Fx (RS [2, 9, 12, 14]) m0 (uI (uL (uL m3 150 ((2 : Int32).toNatClampNeg) x4.toInt64) 150 ((3 : Int32).toNatClampNeg) x5.toInt64) 0 18 (4 : Int32)) := f7.i rfl
      exact hQ _ w8 f8
    · intro c9
      have t10 := t_shl1 (x := x1) (by omega) (by omega)
      have k11 := z_nle c9
      obtain ⟨r4, e12, q13⟩ := w.r09
      refine ⟨r4, e12, Pl_of q13, ?_⟩
      refine (s_X7_follow w q13 (by show (0 : Int) ≤ (x1).toInt; omega) (by show (x1).toInt ≤ (6 : Int); omega)).to ?_
      rintro _ m5 ⟨w_m5, g14, w6, rfl⟩
      have f_m5 : Fx (RS [2, 9, 12, 14]) m0 m5 := f.tr g14 (RS_sub rfl)
      refine ⟨w6, rfl, ?_⟩
      refine ⟨?_, ?_⟩
      · intro c15
        have t16 := ti_addc (x := x6) (y := (1 : Int32)) (c := 1) rfl (by omega)
        exact ih _ _ _ _ _ _ w_m5 f_m5 (by show (1 : Int) ≤ (x1).toInt; omega) (by show (x1).toInt ≤ (6 : Int); omega) (by show (0 : Int) ≤ ((x6 + (1 : Int32))).toInt; omega) (by show ((x6 + (1 : Int32))).toInt ≤ (64 : Int); omega) (by show 64 - ((x6 + (1 : Int32))).toInt < _; omega)
      · intro c17
        refine (s_X1_total w_m5 SS_167).to ?_
        rintro _ m7 ⟨w_m7, g18, v8, rfl⟩
        have f_m7 : Fx (RS [2, 9, 12, 14]) m0 m7 := f_m5.tr g18 (RS_sub rfl)
        refine ⟨v8, rfl, ?_⟩
        have t19 := ti_addc (x := x6) (y := (1 : Int32)) (c := 1) rfl (by omega)
        exact ih _ _ _ _ _ _ w_m7 f_m7 (by show (1 : Int) ≤ (x1).toInt; omega) (by show (x1).toInt ≤ (6 : Int); omega) (by show (0 : Int) ≤ ((x6 + (1 : Int32))).toInt; omega) (by show ((x6 + (1 : Int32))).toInt ≤ (64 : Int); omega) (by show 64 - ((x6 + (1 : Int32))).toInt < _; omega)
section WHC
variable {ad : Nat → Nat} {d c P n R : Nat} {m : Wm} {K0 K0' : Wm → Prop}
theorem e_winsC {x1 x2 x3 : Int32} (w : WT m) (hP : m.2.2 0 9 = some P) (hn : m.1 3 3 = nI n) (hn8 : n ≤ 8) (hR : m.1 P 5 = nI R) (hR12 : R ≤ 12) : Ct ad μX11_wins (d + 7) [.ref (ad 0), .int x1, .int x2, .int x3] m (fun r m' => WT m' ∧ Fx (RS [2, 9, 12, 14]) m m' ∧ ((wnOK n R x1 x2 x3 ∧ r = some (.int 0)) ∨ (¬ wnOK n R x1 x2 x3 ∧ r = some (.int (-1))))) := by
  have hPP : Pl P := by
    obtain ⟨r, h1, h2⟩ := w.r09
    rw [hP] at h1
    cases h1
    exact Pl_of h2
  have no : ¬ wnOK n R x1 x2 x3 → WT m ∧ Fx (RS [2, 9, 12, 14]) m m ∧ ((wnOK n R x1 x2 x3 ∧ some (Value.int (-1)) = some (.int 0)) ∨ (¬ wnOK n R x1 x2 x3 ∧ some (Value.int (-1)) = some (.int (-1)))) := fun h => ⟨w, Fx.rf, Or.inr ⟨h, rfl⟩⟩
  refine v_X11_wins ((e_has hn hn8).to ?_)
  rintro _ m' ⟨eq, rfl⟩
  obtain rfl := eq.symm
  by_cases h1 : 0 ≤ x1.toInt ∧ x1.toInt < n
  · refine ⟨1, by rw [if_pos h1], fun z => absurd z (by decide), fun _ => ⟨fun c => no (fun q => ?_), fun c2 => ⟨fun c => no (fun q => ?_), fun c3 => ⟨fun c => no (fun q => ?_), fun c4 => ⟨fun c => no (fun q => ?_), fun c5 => ⟨P, hP, hPP, fun c6 => ?_, fun c6 => no (fun q => ?_)⟩⟩⟩⟩⟩⟩
    · have := y_ltr (n := 1) rfl c
      have := q.2.1.1
      omega
    · have := y_ltl (n := 6) rfl c
      have := q.2.1.2
      omega
    · have := y_ltr (n := 0) rfl c
      have := q.2.2.1.1
      omega
    · have := z_lt c
      have := q.2.2.1.2
      omega
    · have k2 := y_nltr (n := 1) rfl c2
      have k3 := y_nltl (n := 6) rfl c3
      have k4 := y_nltr (n := 0) rfl c4
      have k5 := z_nlt c5
      have k6 : R ≠ 0 := fun z => c6 (by rw [hR, z]; rfl)
      exact l_wins0 (m0 := m) (fun m2 w2 f2 => ⟨w2, f2, Or.inl ⟨⟨h1, ⟨k2, k3⟩, ⟨k4, k5⟩, k6⟩, rfl⟩⟩) 1000000 m x1 x2 x3 _ _ w Fx.rf h1.1 (by omega) k2 k3 (by decide) (by decide) (by decide)
    · rw [hR] at c6
      have h := congrArg Int32.toInt c6
      rw [nI_toInt (by omega)] at h
      have z0 : (0 : Int32).toInt = 0 := rfl
      have := q.2.2.2
      omega
  · exact ⟨0, by rw [if_neg h1], fun _ => no (fun q => h1 q.1), fun z => absurd rfl z⟩
theorem e_hopesC {x1 : Int32} (w : WT m) (hP : m.2.2 0 9 = some P) (hR : m.1 P 5 = nI R) (hR12 : R ≤ 12) : Ct ad μX11_hopes (d + 7) [.ref (ad 0), .int x1] m (fun r m' => WT m' ∧ Fx (RS [2, 9, 12, 14]) m m' ∧ ((hpOK R x1 ∧ r = some (.int 0)) ∨ (¬ hpOK R x1 ∧ r = some (.int (-1))))) := by
  have hPP : Pl P := by
    obtain ⟨r, h1, h2⟩ := w.r09
    rw [hP] at h1
    cases h1
    exact Pl_of h2
  have no : ¬ hpOK R x1 → WT m ∧ Fx (RS [2, 9, 12, 14]) m m ∧ ((hpOK R x1 ∧ some (Value.int (-1)) = some (.int 0)) ∨ (¬ hpOK R x1 ∧ some (Value.int (-1)) = some (.int (-1)))) := fun h => ⟨w, Fx.rf, Or.inr ⟨h, rfl⟩⟩
  refine v_X11_hopes ⟨fun c => no (fun q => ?_), fun c2 => ⟨fun c => no (fun q => ?_), fun c3 => ⟨P, hP, hPP, fun c6 => ?_, fun c6 => no (fun q => ?_)⟩⟩⟩
  · have := y_ltr (n := 1) rfl c
    have := q.1.1
    omega
  · have := y_ltl (n := 6) rfl c
    have := q.1.2
    omega
  · have k2 := y_nltr (n := 1) rfl c2
    have k3 := y_nltl (n := 6) rfl c3
    have k6 : R ≠ 0 := fun z => c6 (by rw [hR, z]; rfl)
    exact l_hopes0 (m0 := m) (fun m2 w2 f2 => ⟨w2, f2, Or.inl ⟨⟨⟨k2, k3⟩, k6⟩, rfl⟩⟩) 1000000 m x1 _ _ _ _ w Fx.rf k2 k3 (by decide) (by decide) (by decide)
  · rw [hR] at c6
    have h := congrArg Int32.toInt c6
    rw [nI_toInt (by omega)] at h
    have z0 : (0 : Int32).toInt = 0 := rfl
    have := q.2
    omega
theorem ob_wins (hU : TR [2, 9, 12, 14] [20, 22, 24, 26, 28, 36, 37, 49] K0 K0') (c : Nat) (x1 x2 x3 : Int32) : Both ad d μX11_wins μX12_wins [.int x1, .int x2, .int x3] (InvK (KX K0 c)) (InvK (KX K0' (c + 1))) := fun m I => by
  obtain ⟨w, I1, kz, ⟨P, Q, hR, X⟩, lw, kp⟩ := I
  have X0 := X
  obtain ⟨n, R, g, sn, hn, n8, a3, a4, a5, a6, a7, -⟩ := X0
  have I0 := I1
  obtain ⟨h1, h2, h3, h4, h5⟩ := I0
  have t1 : (m.1 187 1).toInt = n := by rw [← h3, hn, nI_toInt (by omega)]
  have t11 : (m.1 187 11).toInt = R := by rw [a4, nI_toInt (by omega)]
  have z0 : (0 : Int32).toInt = 0 := rfl
  have z1 : (-1 : Int32).toInt = -1 := rfl
  refine (e_winsC (d := d + 293) w hR.1 hn n8 a3 a7).to ?_
  rintro r m1 ⟨w1, f1, h⟩
  have g1 : (m1.1 187 1).toInt = n := by rw [f1.at (a := 187) (k := 1) (nRS (ρ := 23) rfl rfl)]; exact t1
  have g11 : (m1.1 187 11).toInt = R := by rw [f1.at (a := 187) (k := 11) (nRS (ρ := 25) rfl rfl)]; exact t11
  unfold wnOK at h
  rcases h with ⟨hC, rfl⟩ | ⟨hC, rfl⟩
  · refine ⟨_, rfl, (s_X12_wins (d := d + 109) w1 (h1.fx f1 rfl)).to ?_⟩
    rintro _ m2 ⟨w2, f2, v2, rfl, p2⟩
    exact ⟨congrArg (fun z => some (Value.int z)) ((fa_eq _ _).mpr (by omega)), w2, I1.f2 f1 f2 rfl rfl, hU.use f1 f2 kz rfl rfl, KB.fd c f1 f2 ⟨⟨P, Q, hR, X⟩, lw, kp⟩ rfl rfl⟩
  · refine ⟨_, rfl, (s_X12_wins (d := d + 109) w1 (h1.fx f1 rfl)).to ?_⟩
    rintro _ m2 ⟨w2, f2, v2, rfl, p2⟩
    exact ⟨congrArg (fun z => some (Value.int z)) ((fa_eq _ _).mpr (by omega)), w2, I1.f2 f1 f2 rfl rfl, hU.use f1 f2 kz rfl rfl, KB.fd c f1 f2 ⟨⟨P, Q, hR, X⟩, lw, kp⟩ rfl rfl⟩
theorem ob_hopes (hU : TR [2, 9, 12, 14] [20, 22, 24, 26, 28, 36, 37, 49] K0 K0') (c : Nat) (x1 : Int32) : Both ad d μX11_hopes μX12_hopes [.int x1] (InvK (KX K0 c)) (InvK (KX K0' (c + 1))) := fun m I => by
  obtain ⟨w, I1, kz, ⟨P, Q, hR, X⟩, lw, kp⟩ := I
  have X0 := X
  obtain ⟨n, R, g, sn, hn, n8, a3, a4, a5, a6, a7, -⟩ := X0
  have I0 := I1
  obtain ⟨h1, h2, h3, h4, h5⟩ := I0
  have t11 : (m.1 187 11).toInt = R := by rw [a4, nI_toInt (by omega)]
  have z0 : (0 : Int32).toInt = 0 := rfl
  have z1 : (-1 : Int32).toInt = -1 := rfl
  refine (e_hopesC (d := d + 293) w hR.1 a3 a7).to ?_
  rintro r m1 ⟨w1, f1, h⟩
  have g11 : (m1.1 187 11).toInt = R := by rw [f1.at (a := 187) (k := 11) (nRS (ρ := 25) rfl rfl)]; exact t11
  unfold hpOK at h
  rcases h with ⟨hC, rfl⟩ | ⟨hC, rfl⟩
  · refine ⟨_, rfl, (s_X12_hopes (d := d + 109) w1 (h1.fx f1 rfl)).to ?_⟩
    rintro _ m2 ⟨w2, f2, v2, rfl, p2⟩
    exact ⟨congrArg (fun z => some (Value.int z)) ((fa_eq _ _).mpr (by omega)), w2, I1.f2 f1 f2 rfl rfl, hU.use f1 f2 kz rfl rfl, KB.fd c f1 f2 ⟨⟨P, Q, hR, X⟩, lw, kp⟩ rfl rfl⟩
  · refine ⟨_, rfl, (s_X12_hopes (d := d + 109) w1 (h1.fx f1 rfl)).to ?_⟩
    rintro _ m2 ⟨w2, f2, v2, rfl, p2⟩
    exact ⟨congrArg (fun z => some (Value.int z)) ((fa_eq _ _).mpr (by omega)), w2, I1.f2 f1 f2 rfl rfl, hU.use f1 f2 kz rfl rfl, KB.fd c f1 f2 ⟨⟨P, Q, hR, X⟩, lw, kp⟩ rfl rfl⟩
end WHC
end
section
/-! THE RULE, BETWEEN TWO CALLS -/
section RUX
variable {m m' : Wm} {S A B : List Nat}
theorem RuK.fx (h : RuK m) (f : Fx (RS S) m m') (e1 : S.elem 1 = false) (e48 : S.elem 48 = false) : RuK m' := by
  obtain ⟨P, Q, hR, cl, z, hX, h27, hz, hv⟩ := h
  have hP : P = 5 ∨ P = 10 := by have := hR.2.2; omega
  have r : ∀ j k, j = 0 ∨ j = 1 → m'.1 (P + j) k = m.1 (P + j) k := fun j k hj => f.at (nRS e1 (rg_1 hP hj))
  have g200 : m'.1 200 = m.1 200 := funext fun k => f.at (nRS (ρ := 48) e48 rfl)
  refine ⟨P, Q, ⟨((f 3 1 (nRS e1 rfl)).2.2).trans hR.1, ((f 3 2 (nRS e1 rfl)).2.2).trans hR.2.1, hR.2.2⟩, cl, z, ⟨(r 0 4 (Or.inl rfl)).trans hX.1, hX.2.1.k (fun k => r 1 k (Or.inr rfl)), hX.2.2⟩, (f.at (nRS (ρ := 48) e48 rfl)).trans h27, hz, ?_⟩
  rw [g200]
  exact hv
theorem RuK.tr (a : (A.all fun x => !(([1, 48] : List Nat).elem x)) = true) (b : (B.all fun x => !(([1, 48] : List Nat).elem x)) = true) : TR A B RuK RuK := fun f1 f2 k => (k.fx f1 (all_ne a (ρ := 1) rfl) (all_ne a (ρ := 48) rfl)).fx f2 (all_ne b (ρ := 1) rfl) (all_ne b (ρ := 48) rfl)
theorem RuK.trn (a : (A.all fun x => !(([1, 48] : List Nat).elem x)) = true) (b : (B.all fun x => !(([1, 48] : List Nat).elem x)) = true) : TRN A B RuK RuK := fun f1 f2 _ k => (k.fx f1 (all_ne a (ρ := 1) rfl) (all_ne a (ρ := 48) rfl)).fx f2 (all_ne b (ρ := 1) rfl) (all_ne b (ρ := 48) rfl)
theorem RuK.kd : KD RuK RuK := by
  intro S1 S2 m m1 m2 f1 f2 k e1 e2
  exact (k.fx f1 (all_ne (L := KL) e1 rfl) (all_ne (L := KL) e1 rfl)).fx f2 (all_ne (L := KL) e2 rfl) (all_ne (L := KL) e2 rfl)
theorem RuK.lg (c : Nat) : LGH (KX RuK c) RuK := by
  intro m m1 m2 n st dg ln sd ar fr wp il sk I en n8 w1 w2 f1 f2 hF V L E e33
  exact (I.2.2.1.fx f1 rfl rfl).fx f2 rfl rfl
theorem KB.rl (c : Nat) {m1 m2 : Wm} (k : KB c m) (f1 : Fx (RS [0, 1]) m m1) (f2 : Fx (RS [20, 21, 22, 48, 28]) m1 m2) : KB (c + 1) m2 := by
  obtain ⟨k1, k2, k3⟩ := k
  exact ⟨(k1.fx f1 rfl rfl rfl rfl rfl).fx f2 rfl rfl rfl rfl rfl, (k2.fx f1 rfl rfl).fx f2 rfl rfl, ((k3.fx f1 rfl rfl rfl).fx f2 rfl rfl rfl).up⟩
theorem RuK.rl (c : Nat) : RLH (KX RuK c) (KX RuK (c + 1)) := fun m m1 m2 I w1 w2 f1 f2 h => ⟨h I.2.2.1, KB.rl c I.2.2.2 f1 f2⟩
theorem RuK.ru (c : Nat) : ∀ m, KX RuK c m → ∃ P Q, RuR m P Q := fun m k => by
  obtain ⟨P, Q, h, -⟩ := k.1
  exact ⟨P, Q, h⟩
end RUX
end
section
/-! THE GAME'S CORE, as both sides play it; and the class's side of what a side can do -/
/-- skills, points, raised, thrown, luck -/
abbrev GS : Type := (Nat → Int32) × (Nat → Int32) × (Nat → Int32) × (Nat → Int32) × Int32
/-- sides, arts, the law's settings, who is ill, the rule's text, its length -/
abbrev EV : Type := Nat × Nat × (Nat → Int32) × (Nat → Bool) × (Nat → Int32) × Nat
def nE (v : EV) : Nat := v.1
def aE (v : EV) : Nat := v.2.1
def lE (v : EV) : Nat → Int32 := v.2.2.1
def iE (v : EV) : Nat → Bool := v.2.2.2.1
def tE (v : EV) : Nat → Int32 := v.2.2.2.2.1
def zE (v : EV) : Nat := v.2.2.2.2.2
def HC (b : Nat) (m : Wm) (g : GS) : Prop := (∀ k, k < 32 → m.1 (b + 1) k = g.1 k) ∧ (∀ k, k < 8 → m.1 (b + 2) k = g.2.1 k) ∧ (∀ k, k < 8 → m.1 (b + 3) k = g.2.2.1 k) ∧ (∀ k, k < 8 → m.1 (b + 4) k = g.2.2.2.1 k) ∧ m.1 b 4 = g.2.2.2.2
/-- of the sides that there are -/
def HM (n : Nat) (m : Wm) (g : GS) : Prop := (∀ k, k < 4 * n → m.1 188 k = g.1 k) ∧ (∀ k, k < n → m.1 190 k = g.2.1 k) ∧ (∀ k, k < n → m.1 191 k = g.2.2.1 k) ∧ (∀ k, k < n → m.1 192 k = g.2.2.2.1 k) ∧ m.1 187 8 = g.2.2.2.2
def illC (m : Wm) (il : Nat → Bool) : Prop := ∀ s, s < 8 → bt (m.1 3 5) s = il s
/-- the rule in force comes to what the text tx of z signs comes to -/
def RuT (m : Wm) (tx : Nat → Int32) (z : Nat) : Prop := ∃ P Q, RuR m P Q ∧ ∃ cl, CodeX P cl m ∧ ((z = 0 ∧ cl = []) ∨ (z ≠ 0 ∧ cl ≠ [] ∧ ∀ lt, evR lt cl [] = some [(prF tx z lt 164 3 0 (0, -1)).1]))
def EC (m : Wm) (v : EV) : Prop := m.1 3 3 = nI (nE v) ∧ m.1 3 4 = nI (aE v) ∧ nE v ≤ 8 ∧ aE v ≤ 4 ∧ (∀ k, k < 5 → m.1 4 k = lE v k) ∧ (illC m (iE v) ∧ ∀ s, nE v ≤ s → iE v s = false) ∧ RuT m (tE v) (zE v)
def EM (m : Wm) (v : EV) : Prop := m.1 187 1 = nI (nE v) ∧ m.1 187 0 = nI (aE v) ∧ nE v ≤ 8 ∧ aE v ≤ 4 ∧ (∀ k, k < 5 → m.1 193 k = lE v k) ∧ (∀ s, s < nE v → m.1 189 s = if iE v s = true then 1 else 0) ∧ m.1 187 27 = nI (zE v) ∧ zE v ≤ 40 ∧ ∀ k, k < zE v → m.1 200 k = tE v k
section COR
variable {ad : Nat → Nat} {d b ρ s ar : Nat} {m m' : Wm} {g : GS} {v : EV} {S : List Nat}
theorem HC.fx (h : HC b m g) (hb : SS b ρ) (f : Fx (RS S) m m') (e : S.elem ρ = false) : HC b m' g := by
  obtain ⟨h1, h2, h3, h4, h5⟩ := h
  have r : ∀ j k, j ≤ 4 → m'.1 (b + j) k = m.1 (b + j) k := fun j k hj => f.at (nRS e (hb.2 j k hj).1)
  exact ⟨fun k hk => (r 1 k (by decide)).trans (h1 k hk), fun k hk => (r 2 k (by decide)).trans (h2 k hk), fun k hk => (r 3 k (by decide)).trans (h3 k hk), fun k hk => (r 4 k (by decide)).trans (h4 k hk), (r 0 4 (by decide)).trans h5⟩
theorem HM.fx {n : Nat} (h : HM n m g) (f : Fx (RS S) m m') (e : S.elem 24 = false) (e2 : S.elem 49 = false) : HM n m' g := by
  obtain ⟨h1, h2, h3, h4, h5⟩ := h
  exact ⟨fun k hk => (f.at (nRS (ρ := 24) e rfl)).trans (h1 k hk), fun k hk => (f.at (nRS (ρ := 24) e rfl)).trans (h2 k hk), fun k hk => (f.at (nRS (ρ := 24) e rfl)).trans (h3 k hk), fun k hk => (f.at (nRS (ρ := 24) e rfl)).trans (h4 k hk), (f.at (nRS (ρ := 49) e2 rfl)).trans h5⟩
theorem RuT.fx {tx : Nat → Int32} {z : Nat} (h : RuT m tx z) (f : Fx (RS S) m m') (e : S.elem 1 = false) : RuT m' tx z := by
  obtain ⟨P, Q, hR, cl, hX, hv⟩ := h
  have hP : P = 5 ∨ P = 10 := by have := hR.2.2; omega
  have r : ∀ j k, j = 0 ∨ j = 1 → m'.1 (P + j) k = m.1 (P + j) k := fun j k hj => f.at (nRS e (rg_1 hP hj))
  exact ⟨P, Q, ⟨((f 3 1 (nRS e rfl)).2.2).trans hR.1, ((f 3 2 (nRS e rfl)).2.2).trans hR.2.1, hR.2.2⟩, cl, ⟨(r 0 4 (Or.inl rfl)).trans hX.1, hX.2.1.k (fun k => r 1 k (Or.inr rfl)), hX.2.2⟩, hv⟩
theorem EC.fx (h : EC m v) (f : Fx (RS S) m m') (e : S.all (fun x => !(([1, 41, 42, 43] : List Nat).elem x)) = true) : EC m' v := by
  obtain ⟨h1, h2, h3, h4, h5, h6, h7⟩ := h
  refine ⟨(f.at (nRS (all_ne e (ρ := 41) rfl) rfl)).trans h1, (f.at (nRS (all_ne e (ρ := 41) rfl) rfl)).trans h2, h3, h4, fun k hk => (f.at (nRS (all_ne e (ρ := 43) rfl) rfl)).trans (h5 k hk), ⟨fun s hs => ?_, h6.2⟩, h7.fx f (all_ne e (ρ := 1) rfl)⟩
  rw [f.at (a := 3) (k := 5) (nRS (all_ne e (ρ := 42) rfl) rfl)]
  exact h6.1 s hs
theorem EM.fx (h : EM m v) (f : Fx (RS S) m m') (e : S.all (fun x => !(([23, 46, 47, 48] : List Nat).elem x)) = true) : EM m' v := by
  obtain ⟨h1, h2, h3, h4, h5, h6, h7, h8, h9⟩ := h
  exact ⟨(f.at (nRS (all_ne e (ρ := 23) rfl) rfl)).trans h1, (f.at (nRS (all_ne e (ρ := 23) rfl) rfl)).trans h2, h3, h4, fun k hk => (f.at (nRS (all_ne e (ρ := 47) rfl) rfl)).trans (h5 k hk), fun s hs => (f.at (nRS (all_ne e (ρ := 46) rfl) rfl)).trans (h6 s hs), (f.at (nRS (all_ne e (ρ := 48) rfl) rfl)).trans h7, h8, fun k hk => (f.at (nRS (all_ne e (ρ := 48) rfl) rfl)).trans (h9 k hk)⟩
theorem sk_ix {a : Nat} : nI s * (4 : Int32) + nI a = nI (4 * s + a) := by rw [mul_l 4 4 rfl, nI_add, Nat.mul_comm]
theorem skillC (hb : SS b ρ) (h : HC b m g) {a : Nat} (hs : s < 8) (ha : a < 4) : Ct ad μX8_skillOf d [.ref (ad b), .int (nI s), .int (nI a)] m (fun r m' => m' = m ∧ r = some (.int (g.1 (4 * s + a)))) := by
  refine v_X8_skillOf hb.1 ?_
  rw [sk_ix, nI_clamp (by omega), h.1 (4 * s + a) (by omega)]
  exact ⟨fun c => absurd ((l_lt 0 0 rfl (by decide) (by omega)).mp c) (by omega), fun _ => ⟨fun c => absurd ((le_l 32 32 rfl (by decide) (by omega)).mp c) (by omega), fun _ => ⟨nat_in (by omega) (by decide), rfl, rfl⟩⟩⟩
theorem putC (hb : SS b ρ) {a : Nat} {x : Int32} (hs : s < 8) (ha : a < 4) : Ct ad μX8_putSkill d [.ref (ad b), .int (nI s), .int (nI a), .int x] m (fun r m' => r = none ∧ m' = uI m (b + 1) (4 * s + a) x) := by
  refine v_X8_putSkill hb.1 ?_
  rw [sk_ix, nI_clamp (by omega)]
  exact ⟨fun c => absurd ((l_lt 0 0 rfl (by decide) (by omega)).mp c) (by omega), fun _ => ⟨fun c => absurd ((le_l 32 32 rfl (by decide) (by omega)).mp c) (by omega), fun _ => ⟨nat_in (by omega) (by decide), rfl, rfl⟩⟩⟩
theorem ix_end (hs : s < 8) (ha : ar ≤ 4) : (if (32 : Int32) < nI s * (4 : Int32) + nI ar then (32 : Int32) else nI s * (4 : Int32) + nI ar) = nI (4 * s + ar) := by
  rw [sk_ix, if_neg (fun c => by have := (lt_l 32 32 rfl (by decide) (by omega)).mp c; omega)]
theorem ix_beg (hs : s < 8) : (if nI s < (0 : Int32) then (0 : Int32) else nI s) * (4 : Int32) = nI (4 * s) := by
  rw [if_neg (fun c => by have := (l_lt 0 0 rfl (by decide) (by omega)).mp c; omega), mul_l 4 4 rfl, Nat.mul_comm]
theorem sumC (hb : SS b ρ) (h : HC b m g) (hs : s < 8) (ha : ar ≤ 4) : Ct ad μX8_sum (d + 1) [.ref (ad b), .int (nI s), .int (nI ar)] m (fun r m' => m' = m ∧ r = some (.int (smF g.1 (4 * s) ar))) := by
  refine v_X8_sum hb.1 ?_
  rw [ix_end hs ha, ix_beg hs]
  refine down (N := ar) (P := fun k => AW ad E0 μX8_sum (d + 1) (fun r m' => m' = m ∧ r = some (.int (smF g.1 (4 * s) ar))) 26 [(0, .ref (ad b)), (3, .int (smF g.1 (4 * s) k)), (4, .int (nI (4 * s + ar))), (5, .int (nI (4 * s + k)))] [] m) ?_ ?_ (Nat.zero_le _)
  · exact g_X8_sum_26 hb.1 ⟨fun _ => ⟨rfl, rfl⟩, fun c => absurd ((nI_leI (by omega) (by omega)).mpr (Nat.le_refl _)) c⟩
  · intro k hk ih
    refine g_X8_sum_26 hb.1 ⟨fun c => absurd ((nI_leI (by omega) (by omega)).mp c) (by omega), fun _ => ?_⟩
    rw [nI_clamp (by omega), h.1 (4 * s + k) (by omega), nI_1]
    exact ⟨nat_in (by omega) (by decide), ih⟩
theorem mostC (hb : SS b ρ) (h : HC b m g) (hs : s < 8) (ha : ar ≤ 4) : Ct ad μX8_greatest (d + 1) [.ref (ad b), .int (nI s), .int (nI ar)] m (fun r m' => m' = m ∧ r = some (.int (mxF g.1 (4 * s) ar))) := by
  refine v_X8_greatest hb.1 ?_
  rw [ix_end hs ha, ix_beg hs]
  refine down (N := ar) (P := fun k => AW ad E0 μX8_greatest (d + 1) (fun r m' => m' = m ∧ r = some (.int (mxF g.1 (4 * s) ar))) 26 [(0, .ref (ad b)), (3, .int (mxF g.1 (4 * s) k)), (4, .int (nI (4 * s + ar))), (5, .int (nI (4 * s + k)))] [] m) ?_ ?_ (Nat.zero_le _)
  · exact g_X8_greatest_26 hb.1 ⟨fun _ => ⟨rfl, rfl⟩, fun c => absurd ((nI_leI (by omega) (by omega)).mpr (Nat.le_refl _)) c⟩
  · intro k hk ih
    refine g_X8_greatest_26 hb.1 ⟨fun c => absurd ((nI_leI (by omega) (by omega)).mp c) (by omega), fun _ => ?_⟩
    rw [nI_clamp (by omega), h.1 (4 * s + k) (by omega), nI_1]
    exact ⟨nat_in (by omega) (by decide), ih⟩
theorem leastC (hb : SS b ρ) (h : HC b m g) (hs : s < 8) (ha : ar ≤ 4) : Ct ad μX8_least (d + 1) [.ref (ad b), .int (nI s), .int (nI ar)] m (fun r m' => m' = m ∧ r = some (.int (mnF g.1 (4 * s) ar))) := by
  refine v_X8_least hb.1 ?_
  rw [ix_end hs ha, ix_beg hs]
  refine down (N := ar) (P := fun k => AW ad E0 μX8_least (d + 1) (fun r m' => m' = m ∧ r = some (.int (mnF g.1 (4 * s) ar))) 27 [(0, .ref (ad b)), (3, .int (mnF g.1 (4 * s) k)), (4, .int (nI (4 * s + ar))), (5, .int (nI (4 * s + k)))] [] m) ?_ ?_ (Nat.zero_le _)
  · exact g_X8_least_27 hb.1 ⟨fun _ => ⟨rfl, rfl⟩, fun c => absurd ((nI_leI (by omega) (by omega)).mpr (Nat.le_refl _)) c⟩
  · intro k hk ih
    refine g_X8_least_27 hb.1 ⟨fun c => absurd ((nI_leI (by omega) (by omega)).mp c) (by omega), fun _ => ?_⟩
    rw [nI_clamp (by omega), h.1 (4 * s + k) (by omega), nI_1]
    exact ⟨nat_in (by omega) (by decide), ih⟩
theorem thingC (hb : SS b ρ) (h : HC b m g) (hs : s < 8) (ha : ar ≤ 4) {c : Int32} (hc : isLt c) : Ct ad μX5_thing (d + 2) [.int c, .ref (ad b), .int (nI s), .int (nI ar)] m (fun r m' => m' = m ∧ r = some (.int (ltF g.1 g.2.1 g.2.2.1 ar s c))) := by
  refine v_X5_thing hb.1 ⟨?_, ?_, ?_, ?_, ?_, ?_, ?_⟩
  · rintro rfl
    exact ⟨rfl, rfl⟩
  · rintro rfl
    refine (leastC hb h hs ha).to ?_
    rintro _ m1 ⟨eq, rfl⟩
    obtain rfl := eq.symm
    exact ⟨_, rfl, rfl, rfl⟩
  · rintro rfl
    refine (mostC hb h hs ha).to ?_
    rintro _ m1 ⟨eq, rfl⟩
    obtain rfl := eq.symm
    exact ⟨_, rfl, rfl, rfl⟩
  · rintro rfl
    refine ⟨nat_in hs (by decide), rfl, ?_⟩
    rw [nI_clamp (by omega), h.2.1 s hs]
    rfl
  · rintro rfl
    refine ⟨nat_in hs (by decide), rfl, ?_⟩
    rw [nI_clamp (by omega), h.2.2.1 s hs]
    rfl
  · rintro rfl
    refine (sumC hb h hs ha).to ?_
    rintro _ m1 ⟨eq, rfl⟩
    obtain rfl := eq.symm
    exact ⟨_, rfl, rfl, rfl⟩
  · intro h1 h2 h3 h4 h5 h6
    have hr : 97 ≤ c ∧ c ≤ 100 := by
      rcases hc with q | q | q | q | q | q | q
      · exact q
      · exact absurd q h6
      · exact absurd q h3
      · exact absurd q h2
      · exact absurd q h1
      · exact absurd q h4
      · exact absurd q h5
    have q1 := y_lel (n := 97) rfl hr.1
    have q2 := y_ler (n := 100) rfl hr.2
    have z97 : (97 : Int32).toInt = 97 := rfl
    have q4 := ti_sub (x := c) (y := (97 : Int32)) (by omega)
    obtain ⟨j, hj, ej⟩ := zn_of (x := c - 97) (by omega)
    have q5 : (c - 97).toInt = j := by rw [ej, nI_toInt hj]
    have z0 : (0 : Int32).toInt = 0 := rfl
    have z1 : (1 : Int32).toInt = 1 := rfl
    have q3 : (nI ar).toInt = ar := nI_toInt (by omega)
    have q6 := ti_sub (x := nI ar) (y := (1 : Int32)) (by omega)
    have e0 : ltF g.1 g.2.1 g.2.2.1 ar s c = if 0 ≤ c - 97 ∧ c - 97 ≤ nI ar - 1 then g.1 (4 * s + (c - 97).toNatClampNeg) else 0 := by
      unfold ltF
      rw [if_neg h1, if_neg h2, if_neg h3, if_neg h4, if_neg h5, if_neg h6]
    refine ⟨fun q => ⟨rfl, ?_⟩, fun q => ?_⟩
    · have := z_le q
      rw [e0, if_neg (fun z => by have := z_le z.2; omega)]
    · have := z_nle q
      rw [e0, if_pos ⟨(fa_le _ _).mpr (by omega), (fa_le _ _).mpr (by omega)⟩, ej, nI_clamp hj]
      refine (skillC hb h hs (a := j) (by omega)).to ?_
      rintro _ m1 ⟨eq, rfl⟩
      obtain rfl := eq.symm
      exact ⟨_, rfl, rfl, rfl⟩
theorem joinC {c x y : Int32} : Ct ad μX5_joined d [.int c, .int x, .int y] m (fun r m' => m' = m ∧ r = some (.int (jnF c x y))) := by
  refine v_X5_joined ⟨?_, ?_, ?_, ?_, ?_, ?_, ?_⟩
  · rintro rfl; exact ⟨rfl, rfl⟩
  · rintro rfl; exact ⟨rfl, rfl⟩
  · rintro rfl; exact ⟨rfl, rfl⟩
  · rintro rfl
    have e : jnF 60 x y = if x < y then 1 else 0 := rfl
    rw [e]
    exact ⟨fun q => ⟨rfl, by rw [if_neg (fun z => by have := z_le q; have := z_lt z; omega)]⟩, fun q => ⟨rfl, by rw [if_pos ((fa_lt _ _).mpr (z_nle q))]⟩⟩
  · rintro rfl
    have e : jnF 61 x y = if x = y then 1 else 0 := rfl
    rw [e]
    exact ⟨fun q => ⟨rfl, by rw [if_neg q]⟩, fun q => ⟨rfl, by rw [if_pos q]⟩⟩
  · rintro rfl
    have e : jnF 62 x y = if y < x then 1 else 0 := rfl
    rw [e]
    exact ⟨fun q => ⟨rfl, by rw [if_neg (fun z => by have := z_le q; have := z_lt z; omega)]⟩, fun q => ⟨rfl, by rw [if_pos ((fa_lt _ _).mpr (z_nle q))]⟩⟩
  · intro n42 n43 n45 n60 n61 n62
    have e : jnF c x y = if y = 0 then 0 else x / y := by
      unfold jnF
      rw [if_neg n60, if_neg n62, if_neg n61, if_neg n43, if_neg n45, if_neg n42]
    rw [e]
    exact ⟨fun q => ⟨q, rfl, by rw [if_neg q]⟩, fun q => ⟨rfl, by rw [if_pos q]⟩⟩
theorem clampC {x lo hi : Int32} (h : lo.toInt ≤ hi.toInt) : Ct ad μX11_clamp d [.int x, .int lo, .int hi] m (fun r m' => m' = m ∧ r = some (.int (if lo < (if x < hi then x else hi) then (if x < hi then x else hi) else lo))) := by
  refine v_X11_clamp ⟨fun c1 => ⟨fun c2 => ⟨rfl, ?_⟩, fun c2 => ⟨rfl, ?_⟩⟩, fun c1 => ⟨rfl, ?_⟩⟩
  · have := z_le c1
    have := z_le c2
    refine congrArg (fun z => some (Value.int z)) ?_
    by_cases q : x < hi
    · rw [if_pos q]
      by_cases q2 : lo < x
      · rw [if_pos q2]
      · rw [if_neg q2]; have := z_nlt q2; exact (fa_eq _ _).mpr (by omega)
    · have := z_nlt q
      rw [if_neg q]
      by_cases q2 : lo < hi
      · rw [if_pos q2]; exact (fa_eq _ _).mpr (by omega)
      · rw [if_neg q2]; have := z_nlt q2; exact (fa_eq _ _).mpr (by omega)
  · have := z_le c1
    have := z_nle c2
    refine congrArg (fun z => some (Value.int z)) ?_
    rw [if_neg (c := x < hi) (fun z => by have := z_lt z; omega)]
    by_cases q2 : lo < hi
    · rw [if_pos q2]
    · rw [if_neg q2]; have := z_nlt q2; exact (fa_eq _ _).mpr (by omega)
  · have := z_nle c1
    refine congrArg (fun z => some (Value.int z)) ?_
    rw [if_pos (c := x < hi) ((fa_lt _ _).mpr (by omega)), if_neg (c := lo < x) (fun z => by have := z_lt z; omega)]
theorem drop_c : ∀ (cl : List Int32) (j : Nat), j < cl.length → cl.drop j = cAt cl j :: cl.drop (j + 1) := by
  intro cl
  induction cl with
  | nil => intro j h; exact absurd h (Nat.not_lt_zero j)
  | cons x cl ih =>
    intro j h
    cases j with
    | zero => rfl
    | succ j => exact ih j (by rw [List.length_cons] at h; omega)
theorem ev_suf {lt : Int32 → Int32} : ∀ (cl : List Int32) (σ τ : List Int32), evR lt cl σ = some τ → ∀ j, ∃ υ, evR lt (cl.drop j) σ = some υ := by
  intro cl
  induction cl with
  | nil => intro σ τ h j; exact ⟨τ, by rw [List.drop_nil]; exact h⟩
  | cons x cl ih =>
    intro σ τ h j
    cases j with
    | zero => exact ⟨τ, h⟩
    | succ j =>
      cases e : evR lt cl σ with
      | none =>
        have h3 : evR lt (x :: cl) σ = none := by
          show (match evR lt cl σ with | none => none | some τ => evS lt x τ) = _
          rw [e]
        rw [h3] at h
        cases h
      | some υ => exact ih σ υ e j
end COR
/-! WHAT A SIDE CAN DO: the class's value of the code -/
section VAL
variable {ad : Nat → Nat} {d b ρ s ar P : Nat} {m m0 : Wm} {g : GS} {cl : List Int32} {v : Int32}
theorem CodeX.fx {S : List Nat} {m' : Wm} (hP : P = 5 ∨ P = 10) (h : CodeX P cl m) (f : Fx (RS S) m m') (e : S.elem 1 = false) : CodeX P cl m' := by
  have r : ∀ j k, j = 0 ∨ j = 1 → m'.1 (P + j) k = m.1 (P + j) k := fun j k hj => f.at (nRS e (rg_1 hP hj))
  exact ⟨(r 0 4 (Or.inl rfl)).trans h.1, h.2.1.k (fun k => r 1 k (Or.inr rfl)), h.2.2⟩
theorem rg_14 {k : Nat} (hP : P = 5 ∨ P = 10) : rg (P + 2) k = 14 := by rcases hP with rfl | rfl <;> rfl
theorem wV (hP : P = 5 ∨ P = 10) (w : WT m) {k : Nat} {x : Int32} : WT (uI m (P + 2) k x) := by rcases hP with rfl | rfl; exact w.n rfl; exact w.n rfl
theorem fV (hP : P = 5 ∨ P = 10) (f : Fx (RS [14]) m0 m) {k : Nat} {x : Int32} : Fx (RS [14]) m0 (uI m (P + 2) k x) := f.i (by unfold RS; rw [rg_14 hP]; rfl)
set_option maxHeartbeats 1000000 in
theorem e_value (hb : SS b ρ) (hρ : ([14] : List Nat).elem ρ = false) (hP : P = 5 ∨ P = 10) (w : WT m) (h : HC b m g) (hs : s < 8) (ha : ar ≤ 4) (hX : CodeX P cl m)
    (hv : cl ≠ [] → evR (ltF g.1 g.2.1 g.2.2.1 ar s) cl [] = some [v]) : Ct ad μX5_value (d + 3) [.ref (ad P), .ref (ad b), .int (nI s), .int (nI ar)] m (fun r m' => WT m' ∧ Fx (RS [14]) m m' ∧ r = some (.int (if cl = [] then smF g.1 (4 * s) ar else clM v))) := by
  obtain ⟨x1, x2, x3⟩ := hX
  refine v_X5_value (Ru_of hP) hb.1 ⟨fun c => ?_, fun c => ?_⟩
  · have hn : cl ≠ [] := fun q => c (by rw [x1, q]; rfl)
    have hv1 := hv hn
    rw [if_neg hn]
    have L : ∀ (n i : Nat) (σ : List Int32) (m1 : Wm), i + n = cl.length → WT m1 → Fx (RS [14]) m m1 → evR (ltF g.1 g.2.1 g.2.2.1 ar s) (cl.drop n) [] = some σ → LCel m1 (P + 2) σ → σ.length ≤ i →
        AW ad E0 μX5_value (d + 2 + 1) (fun r m' => WT m' ∧ Fx (RS [14]) m m' ∧ r = some (.int (clM v))) 20 [(0, .ref (ad P)), (1, .ref (ad b)), (2, .int (nI s)), (3, .int (nI ar)), (4, .int (nI σ.length)), (5, .int (nI i))] [] m1 := by
      intro n
      induction n with
      | zero =>
        intro i σ m1 hi w1 f1 hσ hL hl
        have k4 : m1.1 P 4 = nI cl.length := (f1.at (nRS (ρ := 1) rfl (rg_1 (j := 0) hP (Or.inl rfl)))).trans x1
        have e1 : σ = [v] := by
          have : evR (ltF g.1 g.2.1 g.2.2.1 ar s) (cl.drop 0) [] = some [v] := hv1
          rw [this] at hσ
          exact (Option.some.inj hσ).symm
        subst e1
        have ev0 : m1.1 (P + 2) 0 = v := hL 0 (Nat.lt_succ_self 0)
        refine g_X5_value_20 (Ru_of hP) hb.1 ⟨fun _ => ?_, fun c => absurd (by rw [k4]; exact (nI_leI (by omega) (by omega)).mpr (by omega)) c⟩
        have e00 : (0 : Int32).toNatClampNeg = 0 := rfl
        rw [e00, ev0]
        refine (clampC (by decide)).to ?_
        rintro _ m2 ⟨eq, rfl⟩
        obtain rfl := eq.symm
        exact ⟨_, rfl, w1, f1, rfl⟩
      | succ n ih =>
        intro i σ m1 hi w1 f1 hσ hL hl
        have k4 : m1.1 P 4 = nI cl.length := (f1.at (nRS (ρ := 1) rfl (rg_1 (j := 0) hP (Or.inl rfl)))).trans x1
        have H1 : HC b m1 g := h.fx hb f1 hρ
        have ex : m1.1 (P + 1) i = cAt cl n := ((f1.at (nRS (ρ := 1) rfl (rg_1 (j := 1) hP (Or.inr rfl)))).trans (x2 i (by omega))).trans (by rw [show cl.length - 1 - i = n by omega])
        have ed := drop_c cl n (by omega)
        obtain ⟨υ, hυ⟩ := ev_suf cl [] [v] hv1 n
        rw [ed, evR_c hσ] at hυ
        have hυ2 : evR (ltF g.1 g.2.1 g.2.2.1 ar s) (cl.drop n) [] = some υ := by rw [ed, evR_c hσ]; exact hυ
        generalize cAt cl n = x at ex hυ
        have hs40 : σ.length < 40 := by omega
        have psh : ∀ y, υ = y :: σ → AW ad E0 μX5_value (d + 2 + 1) (fun r m' => WT m' ∧ Fx (RS [14]) m m' ∧ r = some (.int (clM v))) 20 [(0, .ref (ad P)), (1, .ref (ad b)), (2, .int (nI s)), (3, .int (nI ar)), (4, .int (nI σ.length + (1 : Int32))), (5, .int (nI i + (1 : Int32)))] [] (uI m1 (P + 2) (nI σ.length).toNatClampNeg y) := fun y hy => by
          subst hy
          rw [nI_clamp (by omega), nI_1, nI_1]
          exact ih (i + 1) (y :: σ) _ (by omega) (wV hP w1) (fV hP f1) hυ2 hL.c (by rw [List.length_cons]; omega)
        refine g_X5_value_20 (Ru_of hP) hb.1 ⟨fun c => absurd (by rw [k4] at c; exact (nI_leI (by omega) (by omega)).mp c) (by omega), fun _ => ?_⟩
        rw [nI_clamp (by omega), ex]
        refine ⟨nat_in (by omega) (by decide), fun c => (e_rank).to ?_, fun c => ?_⟩
        · rintro _ m2 ⟨eq, rfl⟩
          obtain rfl := eq.symm
          refine ⟨_, rfl, ?_⟩
          have n1 : ¬ x < 1000 := fun q => by have := z_le c; have := z_lt q; omega
          have rk := rk_4 (c := x - 1000)
          unfold evS at hυ
          rw [if_neg n1] at hυ
          refine g_X5_value_59 (Ru_of hP) hb.1 ⟨fun q => ?_, fun q => ⟨fun q2 => absurd ((le_l 40 40 rfl (by decide) (by omega)).mp q2) (by omega), fun _ => ⟨fun _ => ?_, fun q2 => absurd c q2⟩⟩⟩
          · have r0 : ¬ rkN (x - 1000) = 0 := fun z => q (by rw [z]; rfl)
            rw [if_neg r0] at hυ
            refine g_X5_value_111 (Ru_of hP) hb.1 ⟨fun q4 => ?_, fun q4 => ?_⟩
            · have r4 : ¬ rkN (x - 1000) = 4 := fun z => q4 (by rw [z]; rfl)
              rw [if_neg r4] at hυ
              obtain ⟨y, z, r, rfl, hυr⟩ : ∃ y z r, σ = y :: z :: r ∧ υ = jnF (x - 1000) z y :: r := by
                cases σ with
                | nil => cases hυ
                | cons y σ =>
                  cases σ with
                  | nil => cases hυ
                  | cons z r => exact ⟨y, z, r, rfl, (Option.some.inj hυ).symm⟩
              rw [List.length_cons, List.length_cons] at hs40 hl
              have el : nI (y :: z :: r).length = nI (r.length + 2) := by rw [List.length_cons, List.length_cons]
              have ea : nI (r.length + 2) + (-1 : Int32) = nI (r.length + 1) := by
                have := nI_sb (a := r.length + 2) (b := 1) (by omega) (by omega)
                rw [Int32.sub_eq_add_neg] at this
                exact this
              have eb : nI (r.length + 1) - (1 : Int32) = nI r.length := nI_sb (a := r.length + 1) (b := 1) (by omega) (by omega)
              rw [el]
              refine g_X5_value_144 (Ru_of hP) hb.1 ⟨fun q2 => absurd ((l_le 1 1 rfl (by decide) (by omega)).mp q2) (by omega), fun _ => ?_⟩
              have hz : m1.1 (P + 2) r.length = z := hL.t.h
              have hy : m1.1 (P + 2) (r.length + 1) = y := hL.h
              rw [ea, eb, nI_clamp (by omega), nI_clamp (by omega), hz, hy]
              refine ⟨nat_in (by omega) (by decide), nat_in (by omega) (by decide), (joinC).to ?_⟩
              rintro _ m2 ⟨eq, rfl⟩
              obtain rfl := eq.symm
              subst hυr
              refine ⟨_, rfl, nat_in (by omega) (by decide), ?_⟩
              rw [nI_1]
              have := ih (i + 1) (jnF (x - 1000) z y :: r) (uI m1 (P + 2) r.length (jnF (x - 1000) z y)) (by omega) (wV hP w1) (fV hP f1) hυ2 (hL.t.t.c) (by rw [List.length_cons]; omega)
              rw [List.length_cons] at this
              exact this
            · have r4 : rkN (x - 1000) = 4 := (nI_eq (a := rkN (x - 1000)) (b := 4) (by omega) (by omega)).mp q4
              rw [if_pos r4] at hυ
              obtain ⟨y, r, rfl, hυr⟩ : ∃ y r, σ = y :: r ∧ υ = (-y) :: r := by
                cases σ with
                | nil => cases hυ
                | cons y r => exact ⟨y, r, rfl, (Option.some.inj hυ).symm⟩
              rw [List.length_cons] at hs40 hl
              have el : nI (y :: r).length = nI (r.length + 1) := by rw [List.length_cons]
              have eb : nI (r.length + 1) - (1 : Int32) = nI r.length := nI_sb (a := r.length + 1) (b := 1) (by omega) (by omega)
              rw [el]
              refine ⟨fun q2 => absurd ((l_le 0 0 rfl (by decide) (by omega)).mp q2) (by omega), fun _ => ?_⟩
              have hy : m1.1 (P + 2) r.length = y := hL.h
              rw [eb, nI_clamp (by omega), hy, nI_1]
              subst hυr
              refine ⟨nat_in (by omega) (by decide), nat_in (by omega) (by decide), ?_⟩
              have := ih (i + 1) ((-y) :: r) (uI m1 (P + 2) r.length (-y)) (by omega) (wV hP w1) (fV hP f1) hυ2 (hL.t.c) (by rw [List.length_cons]; omega)
              rw [List.length_cons] at this
              exact this
          · have r0 : rkN (x - 1000) = 0 := (nI_eq (a := rkN (x - 1000)) (b := 0) (by omega) (by omega)).mp q
            rw [if_pos r0] at hυ
            by_cases hl2 : isLt (x - 1000)
            · rw [if_pos hl2] at hυ
              refine (thingC (d := d) hb H1 hs ha hl2).to ?_
              rintro _ m2 ⟨eq, rfl⟩
              obtain rfl := eq.symm
              exact ⟨_, rfl, nat_in hs40 (by decide), psh _ (Option.some.inj hυ).symm⟩
            · rw [if_neg hl2] at hυ
              cases hυ
        · have n1 : x < 1000 := (fa_lt _ _).mpr (z_nle c)
          unfold evS at hυ
          rw [if_pos n1] at hυ
          exact g_X5_value_59 (Ru_of hP) hb.1 ⟨fun q => absurd rfl q, fun _ => ⟨fun q2 => absurd ((le_l 40 40 rfl (by decide) (by omega)).mp q2) (by omega), fun _ => ⟨fun q2 => absurd q2 c, fun _ => ⟨nat_in hs40 (by decide), psh _ (Option.some.inj hυ).symm⟩⟩⟩⟩
    exact L cl.length 0 [] m (by omega) w Fx.rf (by rw [List.drop_length]; rfl) (fun i hi => absurd hi (Nat.not_lt_zero i)) (Nat.le_refl _)
  · have hn : cl = [] := by
      rw [x1] at c
      exact List.eq_nil_of_length_eq_zero ((nI_eq (a := cl.length) (b := 0) (by omega) (by decide)).mp c)
    rw [if_pos hn]
    refine (sumC hb h hs ha).to ?_
    rintro _ m1 ⟨eq, rfl⟩
    obtain rfl := eq.symm
    exact ⟨_, rfl, w, Fx.rf, rfl⟩
end VAL
/-! A GAME SETTLED: points, who teaches whom; the class's side -/
def artL (s : Nat → Int32) (f t : Nat) : Nat → Nat → Int32 → Int32 → Int32
  | 0, _, bst, _ => bst
  | k + 1, a, bst, w => if s (4 * f + a) - s (4 * t + a) ≤ w then artL s f t k (a + 1) bst w else artL s f t k (a + 1) (nI a) (s (4 * f + a) - s (4 * t + a))
def artG (s : Nat → Int32) (f t n : Nat) : Int32 := artL s f t n 0 (-1) 0
def gnG (il : Bool) (up have_ own : Int32) : Int32 := if il = true then 0 else if own - have_ < up then own - have_ else up
def clS (x : Int32) : Int32 := if 0 < (if x < 7 then x else 7) then (if x < 7 then x else 7) else 0
def gainG (v : EV) (f t : Nat) (g : GS) : Int32 := gnG (iE v f) (lE v 1) (g.1 (4 * t + (artG g.1 f t (aE v)).toNatClampNeg)) (g.1 (4 * f + (artG g.1 f t (aE v)).toNatClampNeg))
def tchG (cn : Bool) (v : EV) (f t : Nat) (g : GS) : GS :=
  if artG g.1 f t (aE v) = -1 then g else
    (upd (upd g.1 (4 * t + (artG g.1 f t (aE v)).toNatClampNeg) (g.1 (4 * t + (artG g.1 f t (aE v)).toNatClampNeg) + gainG v f t g)) (4 * f + (artG g.1 f t (aE v)).toNatClampNeg) (clS (g.1 (4 * f + (artG g.1 f t (aE v)).toNatClampNeg) + lE v 2 - 1)),
     g.2.1, (if cn = true then upd g.2.2.1 f (g.2.2.1 f + gainG v f t g) else g.2.2.1), g.2.2.2)
def ptG (a b : Nat) (won : Int32) (g : GS) : GS :=
  (g.1, (if won = 2 then upd (upd g.2.1 a (g.2.1 a + 1)) b (upd g.2.1 a (g.2.1 a + 1) b + 1) else upd g.2.1 (if won = 0 then a else b) (g.2.1 (if won = 0 then a else b) + 3)), g.2.2)
def stl1 (cn : Bool) (v : EV) (w l : Nat) (g : GS) : GS := if lE v 0 = 0 ∨ lE v 0 = 2 then tchG cn v w l g else g
def stl2 (cn : Bool) (v : EV) (w l : Nat) (g : GS) : GS := if lE v 0 = 1 ∨ lE v 0 = 2 then tchG cn v l w g else g
/-- by POINTS and RAISED if they count -/
def stlG (cn : Bool) (v : EV) (a b : Nat) (won : Int32) (g : GS) : GS :=
  if won = 2 then (if cn = true then ptG a b won g else g)
  else stl2 cn v (if won = 0 then a else b) (if won = 0 then b else a) (stl1 cn v (if won = 0 then a else b) (if won = 0 then b else a) (if cn = true then ptG a b won g else g))
theorem artL_of {s : Nat → Int32} {f t : Nat} : ∀ (k a : Nat) (bst w : Int32), (bst = -1 ∨ ∃ j, j < a ∧ bst = nI j) → artL s f t k a bst w = -1 ∨ ∃ j, j < a + k ∧ artL s f t k a bst w = nI j := by
  intro k
  induction k with
  | zero => intro a bst w h; exact h
  | succ k ih =>
    intro a bst w h
    have e : artL s f t (k + 1) a bst w = if s (4 * f + a) - s (4 * t + a) ≤ w then artL s f t k (a + 1) bst w else artL s f t k (a + 1) (nI a) (s (4 * f + a) - s (4 * t + a)) := rfl
    rw [e, show a + (k + 1) = a + 1 + k by omega]
    by_cases c : s (4 * f + a) - s (4 * t + a) ≤ w
    · rw [if_pos c]
      exact ih _ _ _ (h.imp id (fun ⟨j, hj, e⟩ => ⟨j, by omega, e⟩))
    · rw [if_neg c]
      exact ih _ _ _ (Or.inr ⟨a, by omega, rfl⟩)
theorem artG_of {s : Nat → Int32} {f t n : Nat} : artG s f t n = -1 ∨ ∃ j, j < n ∧ artG s f t n = nI j := by
  have := artL_of (s := s) (f := f) (t := t) n 0 (-1) 0 (Or.inl rfl)
  rw [Nat.zero_add] at this
  exact this
theorem upd_eq {p q : Nat → Int32} {i k : Nat} {x : Int32} (h : p k = q k) : upd p i x k = upd q i x k := by
  unfold upd
  by_cases e : k = i
  · rw [if_pos e, if_pos e]
  · rw [if_neg e, if_neg e]; exact h
def GR (ρ : Nat) : Prop := ρ = 3 ∨ ρ = 4 ∨ ρ = 5 ∨ ρ = 6 ∨ ρ = 11 ∨ ρ = 12 ∨ ρ = 13
theorem clampS {ad : Nat → Nat} {d : Nat} {m : Wm} {x : Int32} : Ct ad μX11_clamp d [.int x, .int 0, .int 7] m (fun r m' => m' = m ∧ r = some (.int (clS x))) := (clampC (by decide)).to (fun r m1 h => h)
section STL
variable {ad : Nat → Nat} {d b ρ f t : Nat} {m m' m0 : Wm} {g : GS} {v : EV} {S : List Nat}
theorem GR.e1 (h : GR ρ) : ([2, ρ] : List Nat).all (fun x => !(([1, 41, 42, 43] : List Nat).elem x)) = true := by rcases h with rfl | rfl | rfl | rfl | rfl | rfl | rfl <;> rfl
theorem GR.e2 (h : GR ρ) : ([14] : List Nat).elem ρ = false := by rcases h with rfl | rfl | rfl | rfl | rfl | rfl | rfl <;> rfl
theorem GR.e3 (h : GR ρ) : ([2] : List Nat).elem ρ = false := by rcases h with rfl | rfl | rfl | rfl | rfl | rfl | rfl <;> rfl
theorem SS.wu (hb : SS b ρ) (w : WT m) {j k : Nat} {x : Int32} (hj : j ≤ 4) : WT (uI m (b + j) k x) := w.n (hb.2 j k hj).2
theorem SS.fu (hb : SS b ρ) (h : Fx (RS [2, ρ]) m0 m) {j k : Nat} {x : Int32} (hj : j ≤ 4) : Fx (RS [2, ρ]) m0 (uI m (b + j) k x) := h.i (by
  unfold RS
  rw [(hb.2 j k hj).1]
  exact List.elem_eq_true_of_mem (by simp))
theorem HC.sk (h : HC b m g) {i : Nat} {x : Int32} : HC b (uI m (b + 1) i x) (upd g.1 i x, g.2) := by
  obtain ⟨h1, h2, h3, h4, h5⟩ := h
  refine ⟨fun k hk => ?_, fun k hk => (u_ne (by omega)).trans (h2 k hk), fun k hk => (u_ne (by omega)).trans (h3 k hk), fun k hk => (u_ne (by omega)).trans (h4 k hk), (u_ne (by omega)).trans h5⟩
  rw [uI_row]
  exact upd_eq (h1 k hk)
theorem HC.pt (h : HC b m g) {i : Nat} {x : Int32} : HC b (uI m (b + 2) i x) (g.1, upd g.2.1 i x, g.2.2) := by
  obtain ⟨h1, h2, h3, h4, h5⟩ := h
  refine ⟨fun k hk => (u_ne (by omega)).trans (h1 k hk), fun k hk => ?_, fun k hk => (u_ne (by omega)).trans (h3 k hk), fun k hk => (u_ne (by omega)).trans (h4 k hk), (u_ne (by omega)).trans h5⟩
  rw [uI_row]
  exact upd_eq (h2 k hk)
theorem HC.ra (h : HC b m g) {i : Nat} {x : Int32} : HC b (uI m (b + 3) i x) (g.1, g.2.1, upd g.2.2.1 i x, g.2.2.2) := by
  obtain ⟨h1, h2, h3, h4, h5⟩ := h
  refine ⟨fun k hk => (u_ne (by omega)).trans (h1 k hk), fun k hk => (u_ne (by omega)).trans (h2 k hk), fun k hk => ?_, fun k hk => (u_ne (by omega)).trans (h4 k hk), (u_ne (by omega)).trans h5⟩
  rw [uI_row]
  exact upd_eq (h3 k hk)
theorem HC.th (h : HC b m g) {i : Nat} {x : Int32} : HC b (uI m (b + 4) i x) (g.1, g.2.1, g.2.2.1, upd g.2.2.2.1 i x, g.2.2.2.2) := by
  obtain ⟨h1, h2, h3, h4, h5⟩ := h
  refine ⟨fun k hk => (u_ne (by omega)).trans (h1 k hk), fun k hk => (u_ne (by omega)).trans (h2 k hk), fun k hk => (u_ne (by omega)).trans (h3 k hk), fun k hk => ?_, (u_ne (by omega)).trans h5⟩
  rw [uI_row]
  exact upd_eq (h4 k hk)
theorem HC.lu (h : HC b m g) {x : Int32} : HC b (uI m b 4 x) (g.1, g.2.1, g.2.2.1, g.2.2.2.1, x) := by
  obtain ⟨h1, h2, h3, h4, h5⟩ := h
  exact ⟨fun k hk => (u_ne (by omega)).trans (h1 k hk), fun k hk => (u_ne (by omega)).trans (h2 k hk), fun k hk => (u_ne (by omega)).trans (h3 k hk), fun k hk => (u_ne (by omega)).trans (h4 k hk), u_eq⟩
theorem HC.o (h : HC b m g) {a i : Nat} {x : Int32} (hn : ¬ (b ≤ a ∧ a ≤ b + 4)) : HC b (uI m a i x) g := by
  obtain ⟨h1, h2, h3, h4, h5⟩ := h
  exact ⟨fun k hk => (u_ne (by omega)).trans (h1 k hk), fun k hk => (u_ne (by omega)).trans (h2 k hk), fun k hk => (u_ne (by omega)).trans (h3 k hk), fun k hk => (u_ne (by omega)).trans (h4 k hk), (u_ne (by omega)).trans h5⟩
theorem furthC (hb : SS b ρ) (h : HC b m g) (hf : f < 8) (ht : t < 8) {ar : Nat} (ha : ar ≤ 4) : Ct ad μX8_furthestArt (d + 1) [.ref (ad b), .int (nI f), .int (nI t), .int (nI ar)] m (fun r m' => m' = m ∧ r = some (.int (artG g.1 f t ar))) := by
  refine v_X8_furthestArt hb.1 ?_
  rw [ix_beg hf, ix_beg ht]
  have L : ∀ (k a : Nat) (bst w : Int32), a + k = ar → AW ad E0 μX8_furthestArt (d + 1) (fun r m' => m' = m ∧ r = some (.int (artL g.1 f t k a bst w))) 27 [(0, .ref (ad b)), (3, .int (nI ar)), (4, .int bst), (5, .int w), (6, .int (nI (4 * f))), (7, .int (nI (4 * t))), (8, .int (nI a))] [] m := by
    intro k
    induction k with
    | zero =>
      intro a bst w hk
      exact g_X8_furthestArt_27 hb.1 ⟨fun _ => ⟨rfl, rfl⟩, fun c => absurd ((nI_leI (by omega) (by omega)).mpr (by omega)) c⟩
    | succ k ih =>
      intro a bst w hk
      have e : artL g.1 f t (k + 1) a bst w = if g.1 (4 * f + a) - g.1 (4 * t + a) ≤ w then artL g.1 f t k (a + 1) bst w else artL g.1 f t k (a + 1) (nI a) (g.1 (4 * f + a) - g.1 (4 * t + a)) := rfl
      rw [e]
      refine g_X8_furthestArt_27 hb.1 ⟨fun c => absurd ((nI_leI (by omega) (by omega)).mp c) (by omega), fun _ => ?_⟩
      rw [nI_add, nI_add, nI_1, nI_clamp (by omega), nI_clamp (by omega), h.1 (4 * f + a) (by omega), h.1 (4 * t + a) (by omega)]
      refine ⟨fun c => absurd ((le_l 32 32 rfl (by decide) (by omega)).mp c) (by omega), fun _ => ⟨fun c => absurd ((le_l 32 32 rfl (by decide) (by omega)).mp c) (by omega), fun _ => ⟨nat_in (by omega) (by decide), nat_in (by omega) (by decide), fun c => ?_, fun c => ?_⟩⟩⟩
      · rw [if_pos c]; exact ih _ _ _ (by omega)
      · rw [if_neg c]; exact ih _ _ _ (by omega)
  exact L ar 0 (-1) 0 (by omega)
theorem bit_0 (x : Int32) {k : Nat} (hk : k < 31) : ((x >>> (nI k &&& 31)) &&& 1) = 0 ↔ bt x k = false := by
  have h1 := bit_q x hk
  have h2 := t_and1 (x >>> (nI k &&& 31))
  generalize (x >>> (nI k &&& 31)) &&& 1 = y at h1 h2
  constructor
  · intro q
    cases z : bt x k with
    | false => rfl
    | true => have := h1.mpr z; rw [q] at this; exact absurd this (by decide)
  · intro q
    have n1 : ¬ y = 1 := fun z => by have := h1.mp z; rw [q] at this; cases this
    have z1 : (1 : Int32).toInt = 1 := rfl
    have z0 : (0 : Int32).toInt = 0 := rfl
    have := z_ne n1
    exact (fa_eq _ _).mpr (by omega)
theorem isIllC (h : illC m (iE v)) {s : Nat} (hs : s < 8) : Ct ad μX1_isIll d [.ref (ad 3), .int (nI s)] m (fun r m' => m' = m ∧ r = some (.int (if iE v s = true then 1 else 0))) := by
  have hb := h s hs
  refine v_X1_isIll ⟨fun c => ⟨rfl, ?_⟩, fun c => ⟨rfl, ?_⟩⟩
  · have := (bit_0 _ (by omega)).mp c
    rw [hb] at this
    rw [if_neg (by rw [this]; decide)]
  · have : iE v s = true := by
      cases e : iE v s with
      | true => rfl
      | false => exact absurd ((bit_0 _ (by omega)).mpr (hb.trans e)) c
    rw [if_pos this]
set_option maxHeartbeats 1000000 in
theorem teachC (hb : SS b ρ) (hρ : GR ρ) (w : WT m) (f0 : Fx (RS [2, ρ]) m0 m) (h : HC b m g) (hE : EC m v) (hf : f < 8) (ht : t < 8) (hft : f ≠ t) {x4 : Int32} {cn : Bool} (hc : x4 = 0 ↔ cn = false) :
    Ct ad μX1_teach (d + 2) [.ref (ad 3), .ref (ad b), .int (nI f), .int (nI t), .int x4] m (fun r m' => r = none ∧ WT m' ∧ Fx (RS [2, ρ]) m0 m' ∧ HC b m' (tchG cn v f t g)) := by
  obtain ⟨e1, e2, e3, e4, e5, e6, e7⟩ := hE
  refine v_X1_teach hb.1 ?_
  rw [e2]
  refine (furthC (d := d) hb h hf ht e4).to ?_
  rintro _ m1 ⟨eq, rfl⟩
  obtain rfl := eq.symm
  refine ⟨_, rfl, fun c => ?_, fun c => ⟨rfl, w, f0, ?_⟩⟩
  · rcases artG_of (s := g.1) (f := f) (t := t) (n := aE v) with q | ⟨a, ha, q⟩
    · exact absurd q c
    have G : tchG cn v f t g = (upd (upd g.1 (4 * t + a) (g.1 (4 * t + a) + gnG (iE v f) (lE v 1) (g.1 (4 * t + a)) (g.1 (4 * f + a)))) (4 * f + a) (clS (g.1 (4 * f + a) + lE v 2 - 1)), g.2.1, (if cn = true then upd g.2.2.1 f (g.2.2.1 f + gnG (iE v f) (lE v 1) (g.1 (4 * t + a)) (g.1 (4 * f + a))) else g.2.2.1), g.2.2.2) := by
      unfold tchG gainG
      rw [if_neg c, q, nI_clamp (by omega)]
    rw [G, q]
    refine (skillC (d := d + 1) hb h ht (a := a) (by omega)).to ?_
    rintro _ m2 ⟨eq, rfl⟩
    obtain rfl := eq.symm
    refine ⟨_, rfl, (skillC (d := d + 1) hb h hf (a := a) (by omega)).to ?_⟩
    rintro _ m3 ⟨eq, rfl⟩
    obtain rfl := eq.symm
    refine ⟨_, rfl, (isIllC (d := d + 1) (v := v) e6.1 hf).to ?_⟩
    rintro _ m4 ⟨eq, rfl⟩
    obtain rfl := eq.symm
    generalize hn : gnG (iE v f) (lE v 1) (g.1 (4 * t + a)) (g.1 (4 * f + a)) = n
    have go : AW ad E0 μX1_teach (d + 1 + 1) (fun r m' => r = none ∧ WT m' ∧ Fx (RS [2, ρ]) m0 m' ∧ HC b m' (upd (upd g.1 (4 * t + a) (g.1 (4 * t + a) + n)) (4 * f + a) (clS (g.1 (4 * f + a) + lE v 2 - 1)), g.2.1, (if cn = true then upd g.2.2.1 f (g.2.2.1 f + n) else g.2.2.1), g.2.2.2)) 63 [(0, .ref (ad 3)), (1, .ref (ad b)), (2, .int (nI f)), (3, .int (nI t)), (4, .int x4), (5, .int (nI a)), (6, .int (g.1 (4 * t + a))), (7, .int (g.1 (4 * f + a)))] [.int n] m := by
      refine g_X1_teach_63 hb.1 ((putC (d := d + 1) hb ht (a := a) (by omega)).to ?_)
      rintro _ m5 ⟨rfl, rfl⟩
      have l2 : (uI m (b + 1) (4 * t + a) (g.1 (4 * t + a) + n)).1 4 2 = lE v 2 := (Fx.at (SS.fu hb (Fx.rf (m := m)) (j := 1) (by decide)) (a := 4) (k := 2) (nRS (ρ := 43) (all_ne (L := [1, 41, 42, 43]) hρ.e1 rfl) rfl)).trans (e5 2 (by decide))
      have e22 : (2 : Int32).toNatClampNeg = 2 := rfl
      rw [e22, l2]
      refine ⟨rfl, (clampS (d := d + 1)).to ?_⟩
      rintro _ m6 ⟨eq, rfl⟩
      obtain rfl := eq.symm
      refine ⟨_, rfl, (putC (d := d + 1) hb hf (a := a) (by omega)).to ?_⟩
      rintro _ m7 ⟨rfl, rfl⟩
      have w7 : WT (uI (uI m (b + 1) (4 * t + a) (g.1 (4 * t + a) + n)) (b + 1) (4 * f + a) (clS (g.1 (4 * f + a) + lE v 2 - 1))) := hb.wu (hb.wu w (by decide)) (by decide)
      have f7 : Fx (RS [2, ρ]) m0 (uI (uI m (b + 1) (4 * t + a) (g.1 (4 * t + a) + n)) (b + 1) (4 * f + a) (clS (g.1 (4 * f + a) + lE v 2 - 1))) := hb.fu (hb.fu f0 (by decide)) (by decide)
      have H7 : HC b (uI (uI m (b + 1) (4 * t + a) (g.1 (4 * t + a) + n)) (b + 1) (4 * f + a) (clS (g.1 (4 * f + a) + lE v 2 - 1))) (upd (upd g.1 (4 * t + a) (g.1 (4 * t + a) + n)) (4 * f + a) (clS (g.1 (4 * f + a) + lE v 2 - 1)), g.2) := (h.sk).sk
      have z : ∀ (m8 : Wm) (g8 : GS), WT m8 → Fx (RS [2, ρ]) m0 m8 → HC b m8 g8 → AW ad E0 μX1_teach (d + 1 + 1) (fun r m' => r = none ∧ WT m' ∧ Fx (RS [2, ρ]) m0 m' ∧ HC b m' g8) 117 [(0, .ref (ad 3)), (5, .int (nI a)), (8, .int n)] [] m8 := fun m8 g8 w8 f8 H8 => by
        have hb3 : ¬ (b ≤ 3 ∧ 3 ≤ b + 4) := fun q => by
          have r3 := (hb.2 (3 - b) 3 (by omega)).1
          rw [show b + (3 - b) = 3 by omega] at r3
          have r4 : rg 3 3 = 41 := rfl
          rw [r4] at r3
          rcases hρ with z | z | z | z | z | z | z <;> omega
        exact g_X1_teach_117 ⟨fun _ => ⟨rfl, w8, f8, H8⟩, fun _ => ⟨rfl, (w8.n rfl).n rfl, (f8.i (show RS [2, ρ] 3 6 from rfl)).i (show RS [2, ρ] 3 7 from rfl), (H8.o hb3).o hb3⟩⟩
      refine ⟨rfl, fun q => ?_, fun q => ?_⟩
      · rw [if_neg (by rw [hc.mp q]; decide)]
        exact z _ _ w7 f7 H7
      · have hcn : cn = true := by
          cases e : cn with
          | true => rfl
          | false => exact absurd (hc.mpr e) q
        rw [if_pos hcn, nI_clamp (by omega), H7.2.2.1 f hf]
        exact ⟨nat_in hf (by decide), nat_in hf (by decide), z _ _ (hb.wu w7 (by decide)) (hb.fu f7 (by decide)) H7.ra⟩
    have e11 : (1 : Int32).toNatClampNeg = 1 := rfl
    rw [e11, e5 1 (by decide)]
    refine ⟨_, rfl, fun q => ?_, fun q => ?_⟩
    · have hi : ¬ iE v f = true := fun z => by rw [if_pos z] at q; exact absurd q (by decide)
      have en : (if g.1 (4 * f + a) - g.1 (4 * t + a) < lE v 1 then g.1 (4 * f + a) - g.1 (4 * t + a) else lE v 1) = n := by rw [← hn]; unfold gnG; rw [if_neg hi]
      rw [en]
      exact go
    · have hi : iE v f = true := by
        cases e : iE v f with
        | true => rfl
        | false => exact absurd (by rw [e]; rfl) q
      have en : (0 : Int32) = n := by rw [← hn]; unfold gnG; rw [if_pos hi]
      rw [en]
      exact go
  · unfold tchG
    rw [if_pos c]
    exact h
end STL
section STM
variable {ad : Nat → Nat} {d b ρ a e f t : Nat} {m m' m0 : Wm} {g : GS} {v : EV} {S : List Nat}
theorem nI_r {k n : Nat} (hk : k < 2147483648) (hn : n < 2147483648) (h : ¬ k = n) : ¬ nI k = nI n := fun q => h ((nI_eq hk hn).mp q)
theorem pointsC (hb : SS b ρ) (w : WT m) (f0 : Fx (RS [2, ρ]) m0 m) (h : HC b m g) (ha : a < 8) (he : e < 8) {x : Int32} : Ct ad μX1_givePoints d [.ref (ad b), .int (nI a), .int (nI e), .int x] m (fun r m' => r = none ∧ WT m' ∧ Fx (RS [2, ρ]) m0 m' ∧ HC b m' (ptG a e x g)) := by
  have p0 := h.2.1
  refine v_X1_givePoints hb.1 ?_
  rw [nI_clamp (by omega), nI_clamp (by omega), p0 a ha, p0 e he]
  have V1 : vp_in (nI a) 8 := nat_in ha (by decide)
  have V2 : vp_in (nI e) 8 := nat_in he (by decide)
  refine ⟨fun n2 => ⟨fun n0 => ⟨V2, V2, rfl, hb.wu w (by decide), hb.fu f0 (by decide), ?_⟩, fun q0 => ⟨V1, V1, rfl, hb.wu w (by decide), hb.fu f0 (by decide), ?_⟩⟩, fun q2 => ⟨V1, V1, V2, V2, rfl, hb.wu (hb.wu w (by decide)) (by decide), hb.fu (hb.fu f0 (by decide)) (by decide), ?_⟩⟩
  · unfold ptG
    rw [if_neg n2, if_neg n0]
    exact h.pt
  · unfold ptG
    rw [if_neg n2, if_pos q0]
    exact h.pt
  · have e1 : (uI m (b + 2) a (g.2.1 a + 1)).1 (b + 2) e = upd g.2.1 a (g.2.1 a + 1) e := h.pt.2.1 e he
    rw [e1]
    unfold ptG
    rw [if_pos q2]
    exact (h.pt).pt
theorem settleC (hb : SS b ρ) (hρ : GR ρ) (w : WT m) (h : HC b m g) (hE : EC m v) (ha : a < 8) (he : e < 8) (hae : a ≠ e) {x4 x5 : Int32} {cn : Bool} (hc : x5 = 0 ↔ cn = false) :
    Ct ad μX1_settle (d + 3) [.ref (ad 3), .ref (ad b), .int (nI a), .int (nI e), .int x4, .int x5] m (fun r m' => r = none ∧ WT m' ∧ Fx (RS [2, ρ]) m m' ∧ HC b m' (stlG cn v a e x4 g)) := by
  have e00 : (0 : Int32).toNatClampNeg = 0 := rfl
  have hb3 : ¬ (b ≤ 3 ∧ 3 ≤ b + 4) := fun q => by
    have r3 := (hb.2 (3 - b) 3 (by omega)).1
    rw [show b + (3 - b) = 3 by omega] at r3
    have r4 : rg 3 3 = 41 := rfl
    rw [r4] at r3
    rcases hρ with z | z | z | z | z | z | z <;> omega
  have lw0 : ∀ m1, Fx (RS [2, ρ]) m m1 → m1.1 4 0 = lE v 0 := fun m1 f1 => (f1.at (nRS (ρ := 43) (all_ne (L := [1, 41, 42, 43]) hρ.e1 rfl) rfl)).trans (hE.2.2.2.2.1 0 (by decide))
  -- who won, who lost
  have WL : ∀ (wi lo : Nat) (g1 : GS) (m1 : Wm), wi < 8 → lo < 8 → wi ≠ lo → WT m1 → Fx (RS [2, ρ]) m m1 → HC b m1 g1 → AW ad E0 μX1_settle (d + 2 + 1) (fun r m' => r = none ∧ WT m' ∧ Fx (RS [2, ρ]) m m' ∧ HC b m' (stl2 cn v wi lo (stl1 cn v wi lo g1))) 52 [(0, .ref (ad 3)), (1, .ref (ad b)), (5, .int x5), (6, .int (nI wi))] [.int (nI lo)] m1 := by
    intro wi lo g1 m1 hwi hlo hwl w1 f1 H1
    have B : ∀ (g2 : GS) (m2 : Wm), WT m2 → Fx (RS [2, ρ]) m m2 → HC b m2 g2 → AW ad E0 μX1_settle (d + 2 + 1) (fun r m' => r = none ∧ WT m' ∧ Fx (RS [2, ρ]) m m' ∧ HC b m' (stl2 cn v wi lo g2)) 84 [(0, .ref (ad 3)), (1, .ref (ad b)), (5, .int x5), (6, .int (nI wi)), (7, .int (nI lo))] [] m2 := by
      intro g2 m2 w2 f2 H2
      have T : lE v 0 = 1 ∨ lE v 0 = 2 → AW ad E0 μX1_settle (d + 2 + 1) (fun r m' => r = none ∧ WT m' ∧ Fx (RS [2, ρ]) m m' ∧ HC b m' (stl2 cn v wi lo g2)) 104 [(0, .ref (ad 3)), (1, .ref (ad b)), (5, .int x5), (6, .int (nI wi)), (7, .int (nI lo))] [] m2 := fun q => by
        refine g_X1_settle_104 hb.1 ((teachC (d := d) hb hρ w2 f2 H2 (hE.fx f2 hρ.e1) hlo hwi (Ne.symm hwl) hc).to ?_)
        rintro _ m3 ⟨rfl, w3, f3, H3⟩
        refine ⟨rfl, rfl, w3, f3, ?_⟩
        unfold stl2
        rw [if_pos q]
        exact H3
      refine g_X1_settle_84 hb.1 ?_
      rw [e00, lw0 m2 f2]
      refine ⟨fun q => T (Or.inl q), fun n1 => ⟨fun n2 => ⟨rfl, w2, f2, ?_⟩, fun q => T (Or.inr q)⟩⟩
      unfold stl2
      rw [if_neg (fun z => z.elim n1 n2)]
      exact H2
    have T : lE v 0 = 0 ∨ lE v 0 = 2 → Ct ad μX1_teach (d + 2) [.ref (ad 3), .ref (ad b), .int (nI wi), .int (nI lo), .int x5] m1 (fun r m2 => r = none ∧ AW ad E0 μX1_settle (d + 2 + 1) (fun r m' => r = none ∧ WT m' ∧ Fx (RS [2, ρ]) m m' ∧ HC b m' (stl2 cn v wi lo (stl1 cn v wi lo g1))) 84 [(0, .ref (ad 3)), (1, .ref (ad b)), (5, .int x5), (6, .int (nI wi)), (7, .int (nI lo))] [] m2) := fun q => by
      refine (teachC (d := d) hb hρ w1 f1 H1 (hE.fx f1 hρ.e1) hwi hlo hwl hc).to ?_
      rintro _ m3 ⟨rfl, w3, f3, H3⟩
      refine ⟨rfl, ?_⟩
      have es : stl1 cn v wi lo g1 = tchG cn v wi lo g1 := if_pos q
      rw [es]
      exact B _ _ w3 f3 H3
    refine g_X1_settle_52 hb.1 ?_
    rw [e00, lw0 m1 f1]
    refine ⟨fun q => T (Or.inl q), fun n0 => ⟨fun n2 => ?_, fun q => T (Or.inr q)⟩⟩
    have es : stl1 cn v wi lo g1 = g1 := if_neg (fun z => z.elim n0 n2)
    rw [es]
    exact B _ _ w1 f1 H1
  -- behind the points
  have A : ∀ (g1 : GS) (m1 : Wm), (g1 = if cn = true then ptG a e x4 g else g) → WT m1 → Fx (RS [2, ρ]) m m1 → HC b m1 g1 → AW ad E0 μX1_settle (d + 2 + 1) (fun r m' => r = none ∧ WT m' ∧ Fx (RS [2, ρ]) m m' ∧ HC b m' (stlG cn v a e x4 g)) 23 [(0, .ref (ad 3)), (1, .ref (ad b)), (2, .int (nI a)), (3, .int (nI e)), (4, .int x4), (5, .int x5)] [] m1 := by
    intro g1 m1 hg w1 f1 H1
    refine g_X1_settle_23 hb.1 ⟨fun n2 => ⟨fun n0 => ⟨fun _ => ?_, fun q => absurd q n0⟩, fun q0 => ⟨fun q => absurd q0 q, fun _ => ?_⟩⟩, fun q2 => ⟨rfl, w1, f1, ?_⟩⟩
    · unfold stlG
      rw [if_neg n2, if_neg n0, if_neg n0, ← hg]
      exact WL e a g1 m1 he ha (Ne.symm hae) w1 f1 H1
    · unfold stlG
      rw [if_neg n2, if_pos q0, if_pos q0, ← hg]
      exact WL a e g1 m1 ha he hae w1 f1 H1
    · unfold stlG
      rw [if_pos q2, ← hg]
      exact H1
  have w2 : WT (uI (uI m 3 6 (-1 : Int32)) 3 7 (0 : Int32)) := (w.n rfl).n rfl
  have f2 : Fx (RS [2, ρ]) m (uI (uI m 3 6 (-1 : Int32)) 3 7 (0 : Int32)) := ((Fx.rf (S := RS [2, ρ])).i (show RS [2, ρ] 3 6 from rfl)).i (show RS [2, ρ] 3 7 from rfl)
  have H2 : HC b (uI (uI m 3 6 (-1 : Int32)) 3 7 (0 : Int32)) g := (h.o hb3).o hb3
  refine v_X1_settle hb.1 ⟨fun q => ?_, fun q => (pointsC (d := d + 2) hb w2 f2 H2 ha he).to ?_⟩
  · exact A g _ (by rw [hc.mp q]; rfl) w2 f2 H2
  · rintro _ m1 ⟨rfl, w1, f1, H1⟩
    have hcn : cn = true := by
      cases hc2 : cn with
      | true => rfl
      | false => exact absurd (hc.mpr hc2) q
    exact ⟨rfl, A _ m1 (by rw [if_pos hcn]) w1 f1 H1⟩
end STM
/-! what a side can do, who wins, the chance -/
def pwG (v : EV) (g : GS) (s : Nat) : Int32 := pwF (tE v) (zE v) g.1 g.2.1 g.2.2.1 (aE v) s
def rsG (v : EV) (x : Int32) : Int32 := if x ≤ lE v 3 then (if -x ≤ lE v 3 then 2 else 1) else 0
def wnG (v : EV) (g : GS) (a b : Nat) (th : Int32) : Int32 := if th = 1 then 1 else if th = 2 then 0 else if th = 3 then 2 else rsG v (pwG v g a - pwG v g b)
def clH (x : Int32) : Int32 := if 0 < (if x < 100 then x else 100) then (if x < 100 then x else 100) else 0
def chG (v : EV) (g : GS) (a b : Nat) : Int32 := clH (50 + lE v 4 * (pwG v g a - pwG v g b))
theorem clampH {ad : Nat → Nat} {d : Nat} {m : Wm} {x : Int32} : Ct ad μX11_clamp d [.int x, .int 0, .int 100] m (fun r m' => m' = m ∧ r = some (.int (clH x))) := (clampC (by decide)).to (fun r m1 h => h)
section RES
variable {ad : Nat → Nat} {d b ρ a e s : Nat} {m m' m0 : Wm} {g : GS} {v : EV}
theorem fr14 {m1 : Wm} (f : Fx (RS [14]) m m1) : Fx (RS [14]) m m1 := f
/-- the class's power, by the rule in force -/
theorem valueC (hb : SS b ρ) (hρ : GR ρ) (w : WT m) (h : HC b m g) (hE : EC m v) (hs : s < 8) : ∃ P, m.2.2 3 1 = some P ∧ Ru P ∧ Ct ad μX5_value (d + 3) [.ref (ad P), .ref (ad b), .int (nI s), .int (nI (aE v))] m (fun r m' => WT m' ∧ Fx (RS [14]) m m' ∧ r = some (.int (pwG v g s))) := by
  obtain ⟨e1, e2, e3, e4, e5, e6, P, Q, hR, cl, hX, hv⟩ := hE
  have hP : P = 5 ∨ P = 10 := by have := hR.2.2; omega
  refine ⟨P, hR.1, Ru_of hP, ?_⟩
  rcases hv with ⟨hz, hn⟩ | ⟨hz, hn, hv⟩
  · refine (e_value (v := 0) hb hρ.e2 hP w h hs e4 hX (fun q => absurd hn q)).to ?_
    rintro r m1 ⟨w1, f1, rfl⟩
    refine ⟨w1, f1, ?_⟩
    unfold pwG pwF
    rw [if_pos hn, if_pos hz]
  · refine (e_value hb hρ.e2 hP w h hs e4 hX (fun _ => hv _)).to ?_
    rintro r m1 ⟨w1, f1, rfl⟩
    refine ⟨w1, f1, ?_⟩
    unfold pwG pwF
    rw [if_neg hn, if_neg hz]
theorem resultOfC (h : ∀ k, k < 5 → m.1 4 k = lE v k) {x : Int32} : Ct ad μX1_resultOf d [.ref (ad 3), .int x] m (fun r m' => m' = m ∧ r = some (.int (rsG v x))) := by
  have e33 : (3 : Int32).toNatClampNeg = 3 := rfl
  refine v_X1_resultOf ?_
  rw [e33, h 3 (by decide)]
  unfold rsG
  exact ⟨fun c => ⟨fun c2 => ⟨rfl, by rw [if_pos c, if_pos c2]⟩, fun c2 => ⟨rfl, by rw [if_pos c, if_neg c2]⟩⟩, fun c => ⟨rfl, by rw [if_neg c]⟩⟩
theorem resultC (hb : SS b ρ) (hρ : GR ρ) (w : WT m) (h : HC b m g) (hE : EC m v) (ha : a < 8) (he : e < 8) {th : Int32} (ht : th = 0 ∨ th = 1 ∨ th = 2 ∨ th = 3) : Ct ad μX1_result (d + 4) [.ref (ad 3), .ref (ad b), .int (nI a), .int (nI e), .int th] m (fun r m' => WT m' ∧ Fx (RS [14]) m m' ∧ r = some (.int (wnG v g a e th))) := by
  refine v_X1_result (d := d + 3) hb.1 ⟨fun n3 => ⟨fun q0 => ?_, fun n0 => ⟨fun n1 => ⟨w, Fx.rf, ?_⟩, fun q1 => ⟨w, Fx.rf, ?_⟩⟩⟩, fun q3 => ⟨w, Fx.rf, ?_⟩⟩
  · subst q0
    obtain ⟨P, hP, hRu, hV⟩ := valueC (ad := ad) (d := d) hb hρ w h hE ha
    refine ⟨P, hP, hRu, ?_⟩
    rw [hE.2.1]
    refine hV.to ?_
    rintro _ m1 ⟨w1, f1, rfl⟩
    have H1 := h.fx hb f1 hρ.e2
    have E1 := hE.fx f1 rfl
    obtain ⟨P2, hP2, hRu2, hV2⟩ := valueC (ad := ad) (d := d) hb hρ w1 H1 E1 he
    refine ⟨_, rfl, P2, hP2, hRu2, ?_⟩
    rw [E1.2.1]
    refine hV2.to ?_
    rintro _ m2 ⟨w2, f2, rfl⟩
    refine ⟨_, rfl, (resultOfC (d := d + 3) (v := v) (E1.fx f2 rfl).2.2.2.2.1).to ?_⟩
    rintro _ m3 ⟨eq, rfl⟩
    obtain rfl := eq.symm
    exact ⟨_, rfl, w2, f1.tr f2 (fun _ _ h => h), rfl⟩
  · rcases ht with q | q | q | q
    · exact absurd q n0
    · exact absurd q n1
    · rw [q]; rfl
    · exact absurd q n3
  · rw [q1]; rfl
  · rw [q3]; rfl
theorem chanceC (hb : SS b ρ) (hρ : GR ρ) (w : WT m) (h : HC b m g) (hE : EC m v) (ha : a < 8) (he : e < 8) : Ct ad μX1_chance (d + 4) [.ref (ad 3), .ref (ad b), .int (nI a), .int (nI e)] m (fun r m' => WT m' ∧ Fx (RS [14]) m m' ∧ r = some (.int (chG v g a e))) := by
  have e44 : (4 : Int32).toNatClampNeg = 4 := rfl
  obtain ⟨P, hP, hRu, hV⟩ := valueC (ad := ad) (d := d) hb hρ w h hE ha
  refine v_X1_chance (d := d + 3) hb.1 ⟨P, hP, hRu, ?_⟩
  rw [hE.2.1, e44, hE.2.2.2.2.1 4 (by decide)]
  refine hV.to ?_
  rintro _ m1 ⟨w1, f1, rfl⟩
  have H1 := h.fx hb f1 hρ.e2
  have E1 := hE.fx f1 rfl
  obtain ⟨P2, hP2, hRu2, hV2⟩ := valueC (ad := ad) (d := d) hb hρ w1 H1 E1 he
  refine ⟨_, rfl, P2, hP2, hRu2, ?_⟩
  rw [E1.2.1]
  refine hV2.to ?_
  rintro _ m2 ⟨w2, f2, rfl⟩
  refine ⟨_, rfl, (clampH (d := d + 3)).to ?_⟩
  rintro _ m3 ⟨eq, rfl⟩
  obtain rfl := eq.symm
  exact ⟨_, rfl, w2, f1.tr f2 (fun _ _ h => h), rfl⟩
end RES
end
