/-! PLAN, LAW AND WHAT IS KEPT, BETWEEN TWO CALLS -/
/-- the plan of the class at P tells the model's -/
def PlX (P : Nat) (m : Wm) : Prop := ∃ (n R g : Nat) (sn : Nat → Nat), m.1 3 3 = nI n ∧ n ≤ 8 ∧ m.1 P 5 = nI R ∧ m.1 187 11 = nI R ∧ m.1 P 6 = nI g ∧ m.1 187 10 = nI g ∧ R ≤ 12 ∧ g ≤ 40 ∧ (R = 0 → g = 0) ∧ GRel n (R - 1) g (m.1 194) (m.1 (P + 1)) (m.1 (P + 2)) (m.1 (P + 3)) sn ∧ SRel (R - 1) g sn ∧ ∀ ρ, ρ < R → m.1 (P + 4) ρ = nI (sn ρ)
def PlR (m : Wm) : Prop := ∃ P Q, PRF m P Q ∧ PlX P m
def LwR (m : Wm) : Prop := ∀ k, k < 5 → m.1 4 k = m.1 193 k
def KpR (c : Nat) (m : Wm) : Prop := ∃ t, t ≤ c ∧ m.1 187 53 = nI t ∧ ∀ i, i < 2 → (∃ s, s ≤ t ∧ m.1 216 i = nI s) ∧ (m.1 (173 + 7 * i) 4 ≠ 0 ↔ m.1 215 i ≠ 0 ∧ m.1 216 i = m.1 187 53) ∧ (m.1 (173 + 7 * i) 4 ≠ 0 → ∀ k, k < 5 → m.1 (173 + 7 * i + 6) k = m.1 214 (71 * i + 65 + k))
def KB (c : Nat) (m : Wm) : Prop := PlR m ∧ LwR m ∧ KpR c m
/-- where the plan is -/
def NxR (m : Wm) : Prop := ∃ nr R, m.1 0 11 = nI nr ∧ m.1 187 12 = nI nr ∧ m.1 187 11 = nI R ∧ R ≤ 12 ∧ (nr = 0 ∨ nr < R)
theorem NxR.fx {m m' : Wm} {S : List Nat} (h : NxR m) (f : Fx (RS S) m m') (e44 : S.elem 44 = false) (e52 : S.elem 52 = false) (e25 : S.elem 25 = false) : NxR m' := by
  obtain ⟨nr, R, h1, h2, h3, h4⟩ := h
  exact ⟨nr, R, (f.at (nRS (ρ := 44) e44 rfl)).trans h1, (f.at (nRS (ρ := 52) e52 rfl)).trans h2, (f.at (nRS (ρ := 25) e25 rfl)).trans h3, h4⟩
/-- as TR, and where the plan is stands -/
def TRN (A B : List Nat) (K K' : Wm → Prop) : Prop := ∀ {m m1 m2 : Wm}, Fx (RS A) m m1 → Fx (RS B) m1 m2 → (NxR m → NxR m2) → K m → K' m2
theorem TRN.use {A B S1 S2 : List Nat} {K K' : Wm → Prop} {m m1 m2 : Wm} (h : TRN A B K K') (f1 : Fx (RS S1) m m1) (f2 : Fx (RS S2) m1 m2) (hn : NxR m → NxR m2) (k : K m) (e1 : (S1.all fun x => A.elem x) = true) (e2 : (S2.all fun x => B.elem x) = true) : K' m2 := h (Fx.tr Fx.rf f1 (RS_sub e1)) (Fx.tr Fx.rf f2 (RS_sub e2)) hn k
theorem GRel.up {n n' r g : Nat} {np fi se th : Nat → Int32} {sn : Nat → Nat} (h : GRel n r g np fi se th sn) (hn : n ≤ n') : GRel n' r g np fi se th sn := fun j hj => by
  obtain ⟨a, b, c, ⟨d1, d2⟩, ⟨e1, e2⟩, f, g, i⟩ := h j hj
  exact ⟨a, b, c, ⟨d1, by omega⟩, ⟨e1, by omega⟩, f, g, i⟩
theorem GRel.cg {n r g : Nat} {np fi se th np2 fi2 se2 th2 : Nat → Int32} {sn : Nat → Nat} (h : GRel n r g np fi se th sn) (h0 : ∀ k, k < 4 * g → np2 k = np k) (h1 : ∀ j, j < g → fi2 j = fi j) (h2 : ∀ j, j < g → se2 j = se j) (h3 : ∀ j, j < g → th2 j = th j) : GRel n r g np2 fi2 se2 th2 sn := fun j hj => by
  obtain ⟨a, b, c, e, f, g', i, ρ, k1, k2, k3⟩ := h j hj
  rw [h1 j hj, h2 j hj, h3 j hj, h0 (4 * j) (by omega), h0 (4 * j + 1) (by omega), h0 (4 * j + 2) (by omega), h0 (4 * j + 3) (by omega)]
  exact ⟨a, b, c, e, f, g', i, ρ, k1, k2, k3⟩
theorem OG.gr {n R g : Nat} {A B C T : Nat → Nat} {np fi se th : Nat → Int32} (h : OG n R g A B C T) (hn : n ≤ 8) (c : CRel A B g fi se th) (mr : MRel A B C g np) : GRel n (R - 1) g np fi se th T := fun j hj => by
  obtain ⟨a1, a2, a3, a4, a5, a6⟩ := h.1 j hj
  obtain ⟨c1, c2, c3⟩ := c j hj
  obtain ⟨m1, m2, m3, m4⟩ := mr j hj
  have tA : (nI (A j)).toInt = A j := nI_toInt (by omega)
  have tB : (nI (B j)).toInt = B j := nI_toInt (by omega)
  refine ⟨m1.trans c1.symm, m2.trans c2.symm, m3.trans c3.symm, ?_, ?_, fun q => ?_, ?_, C j, by omega, m4, a5, fun q => a6 (by omega)⟩
  · rw [c1, tA]; exact ⟨by omega, by omega⟩
  · rw [c2, tB]; exact ⟨by omega, by omega⟩
  · rw [c1, c2] at q
    exact a3 ((nI_eq (a := A j) (b := B j) (by omega) (by omega)).mp q)
  · rw [c3]; exact ⟨by decide, by decide⟩
theorem OG.sr {n R g : Nat} {A B C T : Nat → Nat} (h : OG n R g A B C T) (hR : 1 ≤ R) : SRel (R - 1) g T := ⟨h.2.2.1 (by omega), fun ρ hρ => (h.2.1 ρ (by omega)).2 (by omega), (h.2.1 (R - 1) (by omega)).1⟩
theorem cStep_ge {f : Nat → Nat} {n z r k : Nat} {S : CrS} : S.1 ≤ (cStep f n z r k S).1 := by
  unfold cStep
  by_cases h : f k < n ∧ f (z - 1 - k) < n
  · rw [if_pos h]; dsimp only; omega
  · rw [if_neg h]; omega
theorem cIn_mono {f : Nat → Nat} {n z r k : Nat} {S : CrS} : ∀ i, (cIn f n z r k S).1 ≤ (cIn f n z r (k + i) S).1 := by
  intro i
  induction i with
  | zero => exact Nat.le_refl _
  | succ i ih =>
    have h : cIn f n z r (k + (i + 1)) S = cStep f n z r (k + i) (cIn f n z r (k + i) S) := cIn_s
    rw [h]
    have := cStep_ge (f := f) (n := n) (z := z) (r := r) (k := k + i) (S := cIn f n z r (k + i) S)
    omega
theorem cOut_pos {n z : Nat} (hn : 2 ≤ n) (hz : z = n + n % 2) : ∀ r, 1 ≤ r → 1 ≤ (cOut n z r).1.1 := by
  intro r
  induction r with
  | zero => intro h; omega
  | succ r ih =>
    intro _
    by_cases h : r = 0
    · subst h
      have e0 : cOut n z 1 = (cIn (fun k => k) n z 0 (z / 2) ((0, (fun _ => 0), (fun _ => 0), (fun _ => 0)) : CrS), rotN z (fun k => k), updN (fun _ => 0) 0 0) := rfl
      have h1 : 1 ≤ (cIn (fun k => k) n z 0 (n % 2 + 1) ((0, (fun _ => 0), (fun _ => 0), (fun _ => 0)) : CrS)).1 := by
        rw [cIn_s]
        unfold cStep
        rw [if_pos ⟨by dsimp only; omega, by dsimp only; omega⟩]
        dsimp only
        omega
      have h2 := cIn_mono (f := fun k => k) (n := n) (z := z) (r := 0) (k := n % 2 + 1) (S := ((0, (fun _ => 0), (fun _ => 0), (fun _ => 0)) : CrS)) (z / 2 - (n % 2 + 1))
      rw [show n % 2 + 1 + (z / 2 - (n % 2 + 1)) = z / 2 by omega] at h2
      rw [e0]
      dsimp only
      omega
    · have h1 := ih (by omega)
      have h2 := (cIn_le (f := (cOut n z r).2.1) (n := n) (z := z) (r := r) (S := (cOut n z r).1) (z / 2)).1
      show 1 ≤ (cIn (cOut n z r).2.1 n z r (z / 2) (cOut n z r).1).1
      omega
theorem n7 {S : List Nat} (h : S.elem 7 = false) {b : Nat} (k : Nat) (h1 : 133 < b) (h2 : b < 146) : ¬ RS S b k := nRS h (rg_7 k h1 h2)
section KBB
variable {ad : Nat → Nat} {d c P Q : Nat} {m m' : Wm} {S : List Nat} {K0 K0' : Wm → Prop}
theorem PlX.fx (h : PlX P m) (hc : ∀ b k, P ≤ b → b ≤ P + 5 → m'.1 b k = m.1 b k) (h33 : m'.1 3 3 = m.1 3 3) (h11 : m'.1 187 11 = m.1 187 11) (h10 : m'.1 187 10 = m.1 187 10) (h194 : ∀ k, m'.1 194 k = m.1 194 k) : PlX P m' := by
  obtain ⟨n, R, g, sn, a1, a2, a3, a4, a5, a6, a7, a8, a9, b1, b2, b3⟩ := h
  exact ⟨n, R, g, sn, h33.trans a1, a2, (hc P 5 (by omega) (by omega)).trans a3, h11.trans a4, (hc P 6 (by omega) (by omega)).trans a5, h10.trans a6, a7, a8, a9, b1.cg (fun k _ => h194 k) (fun j _ => hc _ j (by omega) (by omega)) (fun j _ => hc _ j (by omega) (by omega)) (fun j _ => hc _ j (by omega) (by omega)), b2, fun ρ hρ => (hc _ ρ (by omega) (by omega)).trans (b3 ρ hρ)⟩
theorem PRF.fx (h : PRF m P Q) (f : Fx (RS S) m m') (e54 : S.elem 54 = false) : PRF m' P Q := ⟨(f 0 9 (nRS (ρ := 54) e54 rfl)).2.2.trans h.1, (f 0 10 (nRS (ρ := 54) e54 rfl)).2.2.trans h.2.1, h.2.2⟩
theorem PlR.fx (h : PlR m) (f : Fx (RS S) m m') (e7 : S.elem 7 = false) (e25 : S.elem 25 = false) (e41 : S.elem 41 = false) (e54 : S.elem 54 = false) (e55 : S.elem 55 = false) : PlR m' := by
  obtain ⟨P, Q, hR, X⟩ := h
  have hPQ := hR.2.2
  exact ⟨P, Q, hR.fx f e54, X.fx (fun b k h1 h2 => f.at (n7 e7 k (by omega) (by omega))) (f.at (nRS (ρ := 41) e41 rfl)) (f.at (nRS (ρ := 25) e25 rfl)) (f.at (nRS (ρ := 25) e25 rfl)) (fun k => f.at (nRS (ρ := 55) e55 rfl))⟩
theorem LwR.fx (h : LwR m) (f : Fx (RS S) m m') (e43 : S.elem 43 = false) (e47 : S.elem 47 = false) : LwR m' := fun k hk => by
  rw [f.at (a := 4) (k := k) (nRS (ρ := 43) e43 rfl), f.at (a := 193) (k := k) (nRS (ρ := 47) e47 rfl)]
  exact h k hk
theorem KpR.fx (h : KpR c m) (f : Fx (RS S) m m') (e13 : S.elem 13 = false) (e40 : S.elem 40 = false) (e45 : S.elem 45 = false) : KpR c m' := by
  obtain ⟨t, ht, h53, hi⟩ := h
  have q13 : ∀ b k, 173 ≤ b → b < 187 → m'.1 b k = m.1 b k := fun b k h1 h2 => f.at (nRS (ρ := 13) e13 (rg_13 k h1 h2))
  have q214 : ∀ k, m'.1 214 k = m.1 214 k := fun k => f.at (nRS (ρ := 40) e40 rfl)
  have q215 : ∀ k, m'.1 215 k = m.1 215 k := fun k => f.at (nRS (ρ := 40) e40 rfl)
  have q216 : ∀ k, m'.1 216 k = m.1 216 k := fun k => f.at (nRS (ρ := 40) e40 rfl)
  have q53 : m'.1 187 53 = m.1 187 53 := f.at (nRS (ρ := 45) e45 rfl)
  refine ⟨t, ht, q53.trans h53, fun i hi2 => ?_⟩
  obtain ⟨⟨s, hs, a1⟩, a2, a3⟩ := hi i hi2
  refine ⟨⟨s, hs, (q216 i).trans a1⟩, ?_, fun hz k hk => ?_⟩
  · rw [q13 (173 + 7 * i) 4 (by omega) (by omega), q215 i, q216 i, q53]; exact a2
  · rw [q13 (173 + 7 * i) 4 (by omega) (by omega)] at hz
    rw [q13 (173 + 7 * i + 6) k (by omega) (by omega), q214]; exact a3 hz k hk
theorem KpR.up (h : KpR c m) : KpR (c + 1) m := by
  obtain ⟨t, ht, r⟩ := h
  exact ⟨t, by omega, r⟩
theorem KB.kd (c : Nat) : KD (KB c) (KB (c + 1)) := by
  intro S1 S2 m m1 m2 f1 f2 k e1 e2
  obtain ⟨k1, k2, k3⟩ := k
  refine ⟨(k1.fx f1 ?_ ?_ ?_ ?_ ?_).fx f2 ?_ ?_ ?_ ?_ ?_, (k2.fx f1 ?_ ?_).fx f2 ?_ ?_, ((k3.fx f1 ?_ ?_ ?_).fx f2 ?_ ?_ ?_).up⟩
  all_goals first
    | exact all_ne (L := KL) e1 rfl
    | exact all_ne (L := KL) e2 rfl
/-- the regions of KB -/
def KLB : List Nat := [7, 13, 25, 40, 41, 43, 45, 47, 54, 55]
theorem KB.fd (c : Nat) {S1 S2 : List Nat} {m m1 m2 : Wm} (f1 : Fx (RS S1) m m1) (f2 : Fx (RS S2) m1 m2) (k : KB c m) (e1 : S1.all (fun x => !(KLB.elem x)) = true) (e2 : S2.all (fun x => !(KLB.elem x)) = true) : KB (c + 1) m2 := by
  obtain ⟨k1, k2, k3⟩ := k
  refine ⟨(k1.fx f1 ?_ ?_ ?_ ?_ ?_).fx f2 ?_ ?_ ?_ ?_ ?_, (k2.fx f1 ?_ ?_).fx f2 ?_ ?_, ((k3.fx f1 ?_ ?_ ?_).fx f2 ?_ ?_ ?_).up⟩
  all_goals first
    | exact all_ne (L := KLB) e1 rfl
    | exact all_ne (L := KLB) e2 rfl
theorem KB.lg (c : Nat) (hc : c < 1000) : LGH (KB c) (KB (c + 1)) := by
  intro m m1 m2 n st dg ln sd ar fr wp il sk I en n8 w1 w2 f1 f2 hF V L E e33
  obtain ⟨-, -, ⟨P, Q, hR, X⟩, lw, ⟨t, ht, h53, hi⟩⟩ := I
  obtain ⟨c1, c2, c3, c4, c5, c6, -⟩ := L
  obtain ⟨b1, b2, b3, b4, b5, -⟩ := E
  obtain ⟨V1, V2, V3, V4, V5, V6, V7⟩ := V
  have hPQ := hR.2.2
  have hR2 : PRF m2 P Q := (hR.fx f1 rfl).fx f2 rfl
  have q7 : ∀ b k, 133 < b → b < 146 → m2.1 b k = m1.1 b k := fun b k h1 h2 => f2.at (n7 rfl k h1 h2)
  have g53 : m1.1 187 53 = nI t := (f1.at (nRS (ρ := 45) rfl rfl)).trans h53
  have t53 : m2.1 187 53 = nI (t + 1) := by rw [b4, g53, nI_1]
  refine ⟨⟨P, Q, hR2, ?_⟩, (lw.fx f1 rfl rfl).fx f2 rfl rfl, t + 1, by omega, t53, fun i hi2 => ?_⟩
  · cases wp with
    | true =>
      have b5' : m2.1 187 10 = 0 ∧ m2.1 187 11 = 0 ∧ _ := b5
      have c6' : _ ∧ _ ∧ ∀ P, m.2.2 0 9 = some P → m1.1 P 5 = 0 ∧ m1.1 P 6 = 0 := c6
      obtain ⟨z5, z6⟩ := c6'.2.2 P hR.1
      exact ⟨sd, 0, 0, (fun _ => 0), e33, V2, (q7 P 5 (by omega) (by omega)).trans z5, b5'.2.1, (q7 P 6 (by omega) (by omega)).trans z6, b5'.1, by omega, by omega, fun _ => rfl, fun j hj => absurd hj (Nat.not_lt_zero j), ⟨rfl, fun ρ hρ => by omega, Nat.le_refl _⟩, fun ρ hρ => absurd hρ (Nat.not_lt_zero ρ)⟩
    | false =>
      have b5' : m2.1 187 10 = m1.1 187 10 ∧ m2.1 187 11 = m1.1 187 11 ∧ _ := b5
      have c6' : _ ∧ _ ∧ ∀ b k, 133 < b → b < 146 → m1.1 b k = m.1 b k := c6
      have q8 : ∀ b k, 133 < b → b < 146 → m2.1 b k = m.1 b k := fun b k h1 h2 => (q7 b k h1 h2).trans (c6'.2.2 b k h1 h2)
      obtain ⟨n', R, g, sn, a1, a2, a3, a4, a5, a6, a7, a8, a9, x1, x2, x3⟩ := X
      have enn : n' = n := (nI_eq (a := n') (b := n) (by omega) (by omega)).mp (a1.symm.trans en)
      have hfr := hF rfl
      exact ⟨sd, R, g, sn, e33, V2, (q8 P 5 (by omega) (by omega)).trans a3, b5'.2.1.trans ((f1.at (nRS (ρ := 25) rfl rfl)).trans a4), (q8 P 6 (by omega) (by omega)).trans a5, b5'.1.trans ((f1.at (nRS (ρ := 25) rfl rfl)).trans a6), a7, a8, a9, (x1.up (by omega)).cg (fun k _ => (f2.at (nRS (ρ := 55) rfl rfl)).trans (f1.at (nRS (ρ := 55) rfl rfl))) (fun j _ => q8 _ j (by omega) (by omega)) (fun j _ => q8 _ j (by omega) (by omega)) (fun j _ => q8 _ j (by omega) (by omega)), x2, fun ρ hρ => (q8 _ ρ (by omega) (by omega)).trans (x3 ρ hρ)⟩
  · obtain ⟨⟨s, hs, a1⟩, -, -⟩ := hi i hi2
    have z4 : m2.1 (173 + 7 * i) 4 = 0 := (f2.at (nRS (ρ := 13) rfl (rg_13 4 (by omega) (by omega)))).trans (c5 i hi2)
    have a216 : m2.1 216 i = nI s := (f2.at (nRS (ρ := 40) rfl rfl)).trans ((f1.at (nRS (ρ := 40) rfl rfl)).trans a1)
    refine ⟨⟨s, by omega, a216⟩, ⟨fun h => absurd z4 h, fun h => ?_⟩, fun h => absurd z4 h⟩
    have h2 := h.2
    rw [a216, t53] at h2
    have := (nI_eq (a := s) (b := t + 1) (by omega) (by omega)).mp h2
    omega
/-- K0, and plan, law, what is kept -/
def KX (K0 : Wm → Prop) (c : Nat) (m : Wm) : Prop := K0 m ∧ KB c m
theorem KX.kd {K0 K0' : Wm → Prop} (c : Nat) (h : KD K0 K0') : KD (KX K0 c) (KX K0' (c + 1)) := by
  intro S1 S2 m m1 m2 f1 f2 k e1 e2
  exact ⟨h f1 f2 k.1 e1 e2, KB.kd c f1 f2 k.2 e1 e2⟩
theorem KX.lg {K0 K0' : Wm → Prop} (c : Nat) (hc : c < 1000) (h : LGH (KX K0 c) K0') : LGH (KX K0 c) (KX K0' (c + 1)) := by
  intro m m1 m2 n st dg ln sd ar fr wp il sk I en n8 w1 w2 f1 f2 hF V L E e33
  exact ⟨h m m1 m2 n st dg ln sd ar fr wp il sk I en n8 w1 w2 f1 f2 hF V L E e33, KB.lg c hc m m1 m2 n st dg ln sd ar fr wp il sk ⟨I.1, I.2.1, I.2.2.2⟩ en n8 w1 w2 f1 f2 hF V L E e33⟩
theorem pl_fin {n e p st rd gm : Nat} {tx : Nat → Int32} {big : Bool} {us : Int32} {fi se th : Nat → Int32} {sn : Nat → Nat} (hst : st = 4 ∨ st = 5) (h33 : st = 4 → p < e → tx p ≠ 33) (h44 : p < e → tx p ≠ 44 ∧ tx p ≠ 59) :
    (p < e ∨ big = true → MO (pst n) pok tx big (e - p) p (st, rd, gm, us, fi, se, th, sn) = .inl p) ∧ (¬ p < e → big = false → MO (pst n) pok tx big (e - p) p (st, rd, gm, us, fi, se, th, sn) = .inr (st, rd, gm, us, fi, se, th, sn)) := by
  have hk : pok (st, rd, gm, us, fi, se, th, sn) = true := decide_eq_true hst
  have hN : p < e → pst n (tx p) (st, rd, gm, us, fi, se, th, sn) = none := fun hp => by
    obtain ⟨q1, q2⟩ := h44 hp
    rcases hst with rfl | rfl
    · rw [pst_4b (h33 rfl hp)]; exact pBr_n q2 q1
    · rw [pst_5b]; exact pBr_n q2 q1
  constructor
  · intro h
    by_cases hp : p < e
    · rw [ep_s hp]; exact MO_f (hN hp)
    · have hb : big = true := h.resolve_left hp
      rw [show e - p = 0 by omega]
      exact MO_n (fun q => by rw [hb] at q; exact absurd q.1 (by decide))
  · intro hp hb
    rw [show e - p = 0 by omega]
    exact MO_e ⟨hb, hk⟩
theorem minT_lt {t p : Nat} (hp : p ≤ minT t 76) : (p < t ↔ (p < minT t 76 ∨ decide (76 < t) = true)) := by
  unfold minT at hp ⊢
  by_cases h : t < 76
  · rw [if_pos h] at hp ⊢
    exact ⟨fun q => Or.inl q, fun q => q.elim id (fun q => by have := of_decide_eq_true q; omega)⟩
  · rw [if_neg h] at hp ⊢
    refine ⟨fun q => ?_, fun q => q.elim (fun q => by omega) (fun q => by have := of_decide_eq_true q; omega)⟩
    by_cases h2 : 76 < t
    · exact Or.inr (decide_eq_true h2)
    · left; omega
set_option maxHeartbeats 1000000 in
theorem ob_plan (hU : TRN [0, 7, 44, 54] [20, 21, 22, 25, 27, 52, 55] K0 K0') (c : Nat) : Both ad d μX11_plan μX12_plan [] (InvK (KX K0 c)) (InvK (KX K0' (c + 1))) := fun m I => by
  obtain ⟨w, I1, kz, ⟨P, Q, hR, X⟩, lw, kp⟩ := I
  have X0 := X
  obtain ⟨n, R, g, sn, hn, n8, -⟩ := X0
  have I0 := I1
  obtain ⟨h1, h2, h3, h4, h5⟩ := I0
  have hPQ := hR.2.2
  obtain ⟨t, et, -, -, t80, -⟩ := w.nat (a := 1) (k := 1) rfl (by decide)
  have ht14 : m.1 187 14 = nI t := h2.1.symm.trans et
  have hsd : m.1 187 1 = nI n := h3.symm.trans hn
  have he80 : minT t 76 ≤ 80 := by unfold minT; split <;> omega
  by_cases ht0 : t = 0
  · subst ht0
    refine (e_planC0 (d := d + 296) w hn et hR).to ?_
    rintro r m1 ⟨w1, f1, z11, rfl, hR1, z011, z5, z6⟩
    have k1 : m1.1 187 1 = nI n := (f1.at (nRS (ρ := 23) rfl rfl)).trans hsd
    have k14 : m1.1 187 14 = nI 0 := (f1.at (nRS (ρ := 21) rfl rfl)).trans ht14
    refine ⟨0, rfl, (e_planM (d := d + 295) w1 k1 n8 k14 (by omega)).to ?_⟩
    rintro r m2 ⟨r', g', np', p', w', -, hM0, w2, f2, z14, -, -, hE⟩
    obtain ⟨rfl, rfl, rfl, rfl⟩ := hM0 rfl
    obtain ⟨rfl, k10, k11, k12, -⟩ := hE rfl (by omega)
    have e11 : m2.1 1 1 = 0 := (f2.at (nRS (ρ := 0) rfl rfl)).trans z11
    refine ⟨rfl, w2, ⟨Or.inl (by rw [k11]; rfl), TXI.zero (by rw [e11]; rfl) z14, IV.sd I1 f1 f2 rfl rfl⟩, hU.use f1 f2 (fun _ => ⟨0, 0, (f2.at (nRS (ρ := 44) rfl rfl)).trans z011, k12, k11, by decide, Or.inl rfl⟩) kz rfl rfl, ⟨Q, P, hR1.fx f2 rfl, ?_⟩, (lw.fx f1 rfl rfl).fx f2 rfl rfl, ((kp.fx f1 rfl rfl rfl).fx f2 rfl rfl rfl).up⟩
    exact ⟨n, 0, 0, (fun _ => 0), (f2.at (nRS (ρ := 41) rfl rfl)).trans ((f1.at (nRS (ρ := 41) rfl rfl)).trans hn), n8, (f2.at (n7 rfl 5 (by omega) (by omega))).trans z5, k11, (f2.at (n7 rfl 6 (by omega) (by omega))).trans z6, k10, by omega, by omega, fun _ => rfl, fun j hj => absurd hj (Nat.not_lt_zero j), ⟨rfl, fun ρ hρ => by omega, Nat.le_refl _⟩, fun ρ hρ => absurd hρ (Nat.not_lt_zero ρ)⟩
  · refine (e_planC (d := d + 296) (fi := fun _ => 0) (se := fun _ => 0) (th := fun _ => 0) (sn := fun _ => 0) w hn n8 et (by omega) ht0 rfl hR).to ?_
    rintro r m1 ⟨w1, f1, z11, hq, hE⟩
    have g195 : m1.1 195 = m.1 195 := funext fun k => f1.at (nRS (ρ := 21) rfl rfl)
    have eO : MO (pst n) pok (m.1 2) (decide (76 < t)) (minT t 76) 0 (0, 1, 0, 0, (fun _ => 0), (fun _ => 0), (fun _ => 0), (fun _ => 0)) = MO (pst n) pok (m1.1 195) (decide (76 < t)) (minT t 76) 0 (0, 1, 0, 0, (fun _ => 0), (fun _ => 0), (fun _ => 0), (fun _ => 0)) := by
      rw [g195]
      refine MO_ch (fun _ _ S h => pst_ch n8 S h) (fun j hj => h2.2 j ?_)
      have : minT t 76 ≤ t := by unfold minT; split <;> omega
      rw [et, nI_toInt (by omega)]
      omega
    rw [eO] at hq hE
    have k1 : m1.1 187 1 = nI n := (f1.at (nRS (ρ := 23) rfl rfl)).trans hsd
    have k14 : m1.1 187 14 = nI t := (f1.at (nRS (ρ := 21) rfl rfl)).trans ht14
    have hM := e_planM (ad := ad) (d := d + 295) w1 k1 n8 k14 (by omega)
    generalize hO : MO (pst n) pok (m1.1 195) (decide (76 < t)) (minT t 76) 0 (0, 1, 0, 0, (fun _ => 0), (fun _ => 0), (fun _ => 0), (fun _ => 0)) = O at hq hE
    have rel := rd_rel (big := decide (76 < t)) (tx := m1.1 195) (e := minT t 76) (n := n) (O := O) n8 he80 13 0 0 (m1.1 199) 0 (fun _ => 0) (fun _ => 0) (fun _ => 0) (fun _ => 0) (by omega) (by omega) (Nat.zero_le _) (fun j hj => absurd hj (Nat.not_lt_zero j)) ⟨rfl, fun ρ hρ => absurd hρ (Nat.not_lt_zero ρ), Nat.le_refl _⟩ hO
    obtain ⟨ra, rb⟩ := rel
    have go : ∀ v : Int32, r = some (.int v) → (∀ r2 m2, (∃ r' g' np' p' w', rdF (m1.1 195) (minT t 76) n 13 0 0 (m1.1 199) (0, -1) = (r', g', np', (p', w')) ∧ plM m1 t r' g' np' p' w' r2 m2) → r2 = some (.int v) ∧ InvK (KX K0' (c + 1)) m2) → ∃ v : Int32, r = some (.int v) ∧ Ct ad μX12_plan (d + 300) [.ref (ad 187)] m1 (fun r m2 => r = some (.int v) ∧ InvK (KX K0' (c + 1)) m2) := fun v hr h => ⟨v, hr, hM.to (fun r2 m2 h0 => by
      obtain ⟨r', g', np', p', w', hd, -, hP⟩ := h0
      exact h r2 m2 ⟨r', g', np', p', w', hd ht0, hP⟩)⟩
    -- a text that is wrong
    have bad : ∀ q, O = .inl q → Fx (RS [0, 7]) m m1 → PRF m1 P Q → (∀ b k, P ≤ b → b ≤ P + 5 → m1.1 b k = m.1 b k) → ∀ m2, WT m2 → Fx (RS [20, 21, 22, 27]) m1 m2 → (m2.1 187 14).toInt = 0 → InvK (KX K0' (c + 1)) m2 := fun q _ F1 hR1 hc m2 w2 F2 z14 => by
      have e11 : m2.1 1 1 = 0 := (F2.at (nRS (ρ := 0) rfl rfl)).trans z11
      refine ⟨w2, ⟨(h1.fx F1 rfl).fx F2 rfl, TXI.zero (by rw [e11]; rfl) z14, IV.sd I1 F1 F2 rfl rfl⟩, hU.use F1 F2 (fun nx => (nx.fx F1 rfl rfl rfl).fx F2 rfl rfl rfl) kz rfl rfl, ⟨P, Q, hR1.fx F2 rfl, X.fx (fun b k h1 h2 => (F2.at (n7 rfl k (by omega) (by omega))).trans (hc b k h1 h2)) ?_ ?_ ?_ (fun k => ?_)⟩, (lw.fx F1 rfl rfl).fx F2 rfl rfl, ((kp.fx F1 rfl rfl rfl).fx F2 rfl rfl rfl).up⟩
      · exact (F2.at (nRS (ρ := 41) rfl rfl)).trans (F1.at (nRS (ρ := 41) rfl rfl))
      · exact (F2.at (nRS (ρ := 25) rfl rfl)).trans (F1.at (nRS (ρ := 25) rfl rfl))
      · exact (F2.at (nRS (ρ := 25) rfl rfl)).trans (F1.at (nRS (ρ := 25) rfl rfl))
      · exact (F2.at (nRS (ρ := 55) rfl rfl)).trans (F1.at (nRS (ρ := 55) rfl rfl))
    cases O with
    | inl q =>
      obtain ⟨hr, hR1, hc, F1⟩ := hq q rfl
      refine go _ hr ?_
      rintro r2 m2 ⟨r', g', np', p', w', hd, w2, f2, z14, p1, p2, p3⟩
      rw [hd] at ra rb
      dsimp only at ra rb
      by_cases hw : w' = -1
      · obtain ⟨q1, q2, q3, q4, st, us, fi, se, th, sn', hst, h33, h44, hMO, -, -⟩ := rb hw
        obtain ⟨y1, y2⟩ := pl_fin (n := n) (rd := r') (gm := g') (big := decide (76 < t)) (us := us) (fi := fi) (se := se) (th := th) (sn := sn') hst h33 h44
        by_cases hp : p' < t
        · have e := (y1 ((minT_lt q1).mp hp)).symm.trans hMO
          cases e
          obtain ⟨rfl, F2⟩ := p2 hw hp
          exact ⟨rfl, bad _ rfl F1 hR1 hc m2 w2 F2 z14⟩
        · have hn2 : ¬ (p' < minT t 76 ∨ decide (76 < t) = true) := fun q => hp ((minT_lt q1).mpr q)
          have hb : decide (76 < t) = false := by
            cases hd2 : decide (76 < t) with
            | false => rfl
            | true => exact absurd (Or.inr hd2) hn2
          have e := (y2 (fun q => hn2 (Or.inl q)) hb).symm.trans hMO
          cases e
      · obtain ⟨q', hq', e, e2⟩ := ra hw
        cases e
        obtain ⟨rfl, F2⟩ := p1 hw
        exact ⟨by rw [e2], bad _ rfl F1 hR1 hc m2 w2 F2 z14⟩
    | inr S =>
      obtain ⟨st, rd, gm, us, fi, se, th, sn2⟩ := S
      obtain ⟨hr, hR1, z011, ⟨v1, v2, v3, v4⟩, c1, c2, c3, c4, c5, c6, c7, c8⟩ := hE st rd gm us fi se th sn2 rfl
      refine go _ hr ?_
      rintro r2 m2 ⟨r', g', np', p', w', hd, w2, f2, z14, p1, p2, p3⟩
      rw [hd] at ra rb
      dsimp only at ra rb
      by_cases hw : w' = -1
      · obtain ⟨q1, q2, q3, q4, st', us', fi', se', th', sn', hst, h33, h44, hMO, hG, hS⟩ := rb hw
        obtain ⟨y1, y2⟩ := pl_fin (n := n) (rd := r') (gm := g') (big := decide (76 < t)) (us := us') (fi := fi') (se := se') (th := th') (sn := sn') hst h33 h44
        by_cases hp : p' < t
        · have e := (y1 ((minT_lt q1).mp hp)).symm.trans hMO
          cases e
        · have hn2 : ¬ (p' < minT t 76 ∨ decide (76 < t) = true) := fun q => hp ((minT_lt q1).mpr q)
          have hb : decide (76 < t) = false := by
            cases hd2 : decide (76 < t) with
            | false => rfl
            | true => exact absurd (Or.inr hd2) hn2
          have e := (y2 (fun q => hn2 (Or.inl q)) hb).symm.trans hMO
          have e' := Sum.inr.inj e
          have er : r' = rd := congrArg (fun S : PlS => S.2.1) e'
          have eg : g' = gm := congrArg (fun S : PlS => S.2.2.1) e'
          have ef : fi' = fi := congrArg (fun S : PlS => S.2.2.2.2.1) e'
          have es : se' = se := congrArg (fun S : PlS => S.2.2.2.2.2.1) e'
          have eh : th' = th := congrArg (fun S : PlS => S.2.2.2.2.2.2.1) e'
          have en : sn' = sn2 := congrArg (fun S : PlS => S.2.2.2.2.2.2.2) e'
          rw [er, eg, ef, es, eh, en] at hG
          rw [er, eg, en] at hS
          obtain ⟨hr2, k10, k11, k12, r12, g40, rg, k194⟩ := p3 hw hp
          rw [eg] at k10 k194
          rw [er] at k11 hr2
          have e11 : m2.1 1 1 = 0 := (f2.at (nRS (ρ := 0) rfl rfl)).trans z11
          have q7 : ∀ b k, 133 < b → b < 146 → m2.1 b k = m1.1 b k := fun b k h1 h2 => f2.at (n7 rfl k h1 h2)
          have tg : (nI gm).toInt = gm := nI_toInt (by omega)
          refine ⟨hr2, w2, ⟨Or.inr (by rw [k10, tg]; omega), TXI.zero (by rw [e11]; rfl) z14, IV.sd I1 f1 f2 rfl rfl⟩, hU.use f1 f2 (fun _ => ⟨0, rd, (f2.at (nRS (ρ := 44) rfl rfl)).trans z011, k12, k11, by omega, Or.inl rfl⟩) kz rfl rfl, ⟨Q, P, hR1.fx f2 rfl, ?_⟩, (lw.fx f1 rfl rfl).fx f2 rfl rfl, ((kp.fx f1 rfl rfl rfl).fx f2 rfl rfl rfl).up⟩
          exact ⟨n, rd, gm, sn2, (f2.at (nRS (ρ := 41) rfl rfl)).trans ((f1.at (nRS (ρ := 41) rfl rfl)).trans hn), n8, (q7 Q 5 (by omega) (by omega)).trans c2, k11, (q7 Q 6 (by omega) (by omega)).trans c3, k10, by omega, by omega, fun z => by omega, hG.cg k194 (fun j hj => (q7 _ j (by omega) (by omega)).trans (c5 j hj)) (fun j hj => (q7 _ j (by omega) (by omega)).trans (c6 j hj)) (fun j hj => (q7 _ j (by omega) (by omega)).trans (c7 j hj)), hS, fun ρ hρ => (q7 _ ρ (by omega) (by omega)).trans (c8 ρ hρ (by omega))⟩
      · obtain ⟨q', hq', e, e2⟩ := ra hw
        cases e
theorem ob_circle (hU : TRN [7, 44] [20, 25, 32, 52, 55] K0 K0') (c : Nat) : Both ad d μX11_circle μX12_circle [] (InvK (KX K0 c)) (InvK (KX K0' (c + 1))) := fun m I => by
  obtain ⟨w, I1, kz, ⟨P, Q, hR, X⟩, lw, kp⟩ := I
  have X0 := X
  obtain ⟨n, R, g, sn, hn, n8, -⟩ := X0
  have I0 := I1
  obtain ⟨h1, h2, h3, h4, h5⟩ := I0
  have hPQ := hR.2.2
  have hsd : m.1 187 1 = nI n := h3.symm.trans hn
  refine (e_circleC (d := d + 297) w hn n8 hR).to ?_
  rintro r m1 ⟨w1, f1, hR1, h⟩
  have k1 : m1.1 187 1 = nI n := (f1.at (nRS (ρ := 23) rfl rfl)).trans hsd
  have hM := e_circleM (ad := ad) (d := d + 298) w1 k1 n8
  rcases h with ⟨n2, rfl, e⟩ | ⟨n2, rfl, z011, a5, a6, aC, aS⟩
  · refine ⟨_, rfl, hM.to ?_⟩
    rintro r m2 ⟨w2, f2, h2⟩
    rcases h2 with ⟨-, rfl, F2⟩ | ⟨q, -⟩
    · have F1 : Fx (RS []) m m1 := by rw [e]; exact Fx.rf
      exact ⟨rfl, w2, I1.f2 F1 F2 rfl rfl, hU.use F1 F2 (fun nx => (nx.fx F1 rfl rfl rfl).fx F2 rfl rfl rfl) kz rfl rfl, KB.fd c F1 F2 ⟨⟨P, Q, hR, X⟩, lw, kp⟩ rfl rfl⟩
    · omega
  · refine ⟨_, rfl, hM.to ?_⟩
    rintro r m2 ⟨w2, f2, h2'⟩
    rcases h2' with ⟨q, -⟩ | ⟨-, rfl, k11, k12, k10, hMR⟩
    · omega
    · obtain ⟨z, hz⟩ : ∃ z, n + n % 2 = z := ⟨_, rfl⟩
      rw [hz] at a5 a6 aC aS k11 k10 hMR
      have og := cOut_og (n := n) (z := z) (by omega) (z - 1)
      have gp := cOut_pos (n := n) (z := z) n2 hz.symm (z - 1) (by omega)
      have gl := cOut_le (n := n) (z := z) (by omega) (z - 1)
      have tg : (nI (cOut n z (z - 1)).1.1).toInt = (cOut n z (z - 1)).1.1 := nI_toInt (by omega)
      have q7 : ∀ b k, 133 < b → b < 146 → m2.1 b k = m1.1 b k := fun b k h1 h2 => f2.at (n7 rfl k h1 h2)
      refine ⟨by rw [hz], w2, ⟨Or.inr (by rw [k10, tg]; omega), (h2.fx f1 rfl rfl).fx f2 rfl rfl, IV.sd I1 f1 f2 rfl rfl⟩, hU.use f1 f2 (fun _ => ⟨0, z - 1, (f2.at (nRS (ρ := 44) rfl rfl)).trans z011, k12, k11, by omega, Or.inl rfl⟩) kz rfl rfl, ⟨P, Q, hR1.fx f2 rfl, ?_⟩, (lw.fx f1 rfl rfl).fx f2 rfl rfl, ((kp.fx f1 rfl rfl rfl).fx f2 rfl rfl rfl).up⟩
      exact ⟨n, z - 1, (cOut n z (z - 1)).1.1, (cOut n z (z - 1)).2.2, (f2.at (nRS (ρ := 41) rfl rfl)).trans ((f1.at (nRS (ρ := 41) rfl rfl)).trans hn), n8, (q7 P 5 (by omega) (by omega)).trans a5, k11, (q7 P 6 (by omega) (by omega)).trans a6, k10, by omega, by omega, fun z => by omega, (og.gr n8 aC hMR).cg (fun _ _ => rfl) (fun j _ => q7 _ j (by omega) (by omega)) (fun j _ => q7 _ j (by omega) (by omega)) (fun j _ => q7 _ j (by omega) (by omega)), og.sr (by omega), fun ρ hρ => (q7 _ ρ (by omega) (by omega)).trans (aS ρ hρ)⟩
theorem ob_keep (hU : TR [13] [20, 40] K0 K0') (c : Nat) (a : Int32) : Both ad d μX11_keep μX12_keep [.int a] (InvK (KX K0 c)) (InvK (KX K0' (c + 1))) := fun m I => by
  obtain ⟨w, I1, kz, pl, lw, kp⟩ := I
  refine (e_keepC (d := d + 297) w).to ?_
  rintro r m1 (⟨i, hi, hx, rfl, w1, F1, j1, j2, j3, j4, j5, j6, j7⟩ | ⟨hx, rfl, e⟩)
  · have f1 : Fx (RS [13]) m m1 := (Fx.rf (S := RS [13])).tr F1 (KR_13 hi rfl)
    refine ⟨1, rfl, (e_keepM (d := d + 298) w1).to ?_⟩
    rintro r m2 (⟨i', hi', hx', rfl, w2, f2, b1, b2, b3, b4, b5, b6, b7, b8⟩ | ⟨hx', -⟩)
    · have hii : i' = i := ((nI_eq (a := i) (b := i') (by omega) (by omega)).mp (hx.symm.trans hx')).symm
      subst hii
      refine ⟨rfl, w2, I1.f2 f1 f2 rfl rfl, hU.use f1 f2 kz rfl rfl, (pl.fx f1 rfl rfl rfl rfl rfl).fx f2 rfl rfl rfl rfl rfl, (lw.fx f1 rfl rfl).fx f2 rfl rfl, ?_⟩
      obtain ⟨t, ht, h53, hk⟩ := kp
      have g53 : m1.1 187 53 = nI t := (f1.at (nRS (ρ := 45) rfl rfl)).trans h53
      have k53 : m2.1 187 53 = nI t := (f2.at (nRS (ρ := 45) rfl rfl)).trans g53
      have q13 : ∀ b k, 173 ≤ b → b < 187 → m2.1 b k = m1.1 b k := fun b k h1 h2 => f2.at (nRS (ρ := 13) rfl (rg_13 k h1 h2))
      refine ⟨t, by omega, k53, fun j hj => ?_⟩
      by_cases hji : j = i'
      · subst hji
        have e216 : m2.1 216 j = nI t := b2.trans g53
        refine ⟨⟨t, Nat.le_refl _, e216⟩, ⟨fun _ => ⟨by rw [b1]; decide, e216.trans k53.symm⟩, fun _ => ?_⟩, fun _ k hk2 => ?_⟩
        · rw [q13 (173 + 7 * j) 4 (by omega) (by omega), j7]; decide
        · rw [q13 (173 + 7 * j + 6) k (by omega) (by omega), j5 k hk2, b6 k hk2, f1.at (a := 193) (k := k) (nRS (ρ := 47) rfl rfl)]
          exact lw k hk2
      · obtain ⟨⟨s, hs, a1⟩, a2, a3⟩ := hk j hj
        obtain ⟨d1, d2⟩ := b3 j hji
        have c215 : m2.1 215 j = m.1 215 j := d1.trans (f1.at (nRS (ρ := 40) rfl rfl))
        have c216 : m2.1 216 j = m.1 216 j := d2.trans (f1.at (nRS (ρ := 40) rfl rfl))
        have cc : ∀ b k, 173 + 7 * j ≤ b → b ≤ 173 + 7 * j + 6 → m2.1 b k = m.1 b k := fun b k h1 h2 => (q13 b k (by omega) (by omega)).trans (F1.at (by unfold BR; omega))
        refine ⟨⟨s, hs, c216.trans a1⟩, ?_, fun hz k hk2 => ?_⟩
        · rw [cc (173 + 7 * j) 4 (by omega) (by omega), c215, c216, k53, ← h53]; exact a2
        · rw [cc (173 + 7 * j) 4 (by omega) (by omega)] at hz
          rw [cc (173 + 7 * j + 6) k (by omega) (by omega), b8 (71 * j + 65 + k) (by omega), f1.at (a := 214) (k := 71 * j + 65 + k) (nRS (ρ := 40) rfl rfl)]
          exact a3 hz k hk2
    · have hx2 : a.toInt = i := by rw [hx, nI_toInt (by omega)]
      omega
  · have F1 : Fx (RS []) m m1 := by rw [e]; exact Fx.rf
    have w1 : WT m1 := by rw [e]; exact w
    refine ⟨0, rfl, (e_keepM (d := d + 298) w1).to ?_⟩
    rintro r m2 (⟨i', hi', hx', -⟩ | ⟨-, rfl, w2, f2⟩)
    · have : a.toInt = i' := by rw [hx', nI_toInt (by omega)]
      omega
    · exact ⟨rfl, w2, I1.f2 F1 f2 rfl rfl, hU.use F1 f2 kz rfl rfl, KB.fd c F1 f2 ⟨pl, lw, kp⟩ rfl rfl⟩
theorem ob_again (hU : TR [4, 42, 43, 44, 53] [20, 24, 29, 46, 47, 49, 52] K0 K0') (c : Nat) (a : Int32) : Both ad d μX11_again μX12_again [.int a] (InvK (KX K0 c)) (InvK (KX K0' (c + 1))) := fun m I => by
  obtain ⟨w, I1, kz, pl, lw, kp⟩ := I
  have pl0 := pl
  obtain ⟨P, Q, hR, X⟩ := pl0
  have kp0 := kp
  obtain ⟨t, ht, h53, hk⟩ := kp0
  refine (e_againC (d := d + 297) w hR.1).to ?_
  rintro r m1 (⟨i, hi, hx, hz, rfl, w1, f1, j1, j2, j3, j4, j5, j6, j7⟩ | ⟨hx, rfl, e⟩)
  · obtain ⟨-, a2, a3⟩ := hk i hi
    refine ⟨1, rfl, (e_againM (d := d + 298) w1).to ?_⟩
    rintro r m2 (⟨i', hi', hx', hz', rfl, w2, f2, b1, b2, b3, b4, b5⟩ | ⟨hx', -⟩)
    · have hii : i' = i := ((nI_eq (a := i) (b := i') (by omega) (by omega)).mp (hx.symm.trans hx')).symm
      subst hii
      refine ⟨rfl, w2, I1.f2 f1 f2 rfl rfl, hU.use f1 f2 kz rfl rfl, (pl.fx f1 rfl rfl rfl rfl rfl).fx f2 rfl rfl rfl rfl rfl, fun k hk2 => ?_, ((kp.fx f1 rfl rfl rfl).fx f2 rfl rfl rfl).up⟩
      rw [f2.at (a := 4) (k := k) (nRS (ρ := 43) rfl rfl), j5 k hk2, b3 k hk2, f1.at (a := 214) (k := 71 * i' + 65 + k) (nRS (ρ := 40) rfl rfl)]
      exact a3 hz k hk2
    · refine absurd ?_ (hx' i hi hx)
      rw [f1.at (a := 215) (k := i) (nRS (ρ := 40) rfl rfl), f1.at (a := 216) (k := i) (nRS (ρ := 40) rfl rfl), f1.at (a := 187) (k := 53) (nRS (ρ := 45) rfl rfl)]
      exact a2.mp hz
  · have F1 : Fx (RS []) m m1 := by rw [e]; exact Fx.rf
    have w1 : WT m1 := by rw [e]; exact w
    refine ⟨0, rfl, (e_againM (d := d + 298) w1).to ?_⟩
    rintro r m2 (⟨i', hi', hx', hz', -⟩ | ⟨-, rfl, w2, f2⟩)
    · rw [e] at hz'
      exact absurd (hx i' hi' hx') ((hk i' hi').2.1.mpr hz')
    · exact ⟨rfl, w2, I1.f2 F1 f2 rfl rfl, hU.use F1 f2 kz rfl rfl, KB.fd c F1 f2 ⟨pl, lw, kp⟩ rfl rfl⟩
end KBB
