/-! WHAT BOTH ASK: is it a side, an art, are there two unlike ones -/
def YN (P : Prop) (r : Option Value) : Prop := ∃ v : Int32, r = some (.int v) ∧ (v = 0 → ¬ P) ∧ (¬ v = 0 → P)
def InN (n : Nat) (x : Int32) : Prop := 0 ≤ x.toInt ∧ x.toInt < n
theorem InN.of {n : Nat} {x : Int32} (h : InN n x) : ∃ s, s < n ∧ x = nI s := by
  obtain ⟨j, hj, rfl⟩ := zn_of h.1
  have := h.2
  rw [nI_toInt hj] at this
  exact ⟨j, by omega, rfl⟩
theorem InN.nI {n s : Nat} (h : s < n) (hn : n ≤ 1000) : InN n (nI s) := by
  unfold InN
  rw [nI_toInt (by omega)]
  omega
def Two (n : Nat) (x y : Int32) : Prop := InN n x ∧ InN n y ∧ ¬ x = y
section ASK
variable {ad : Nat → Nat} {d n : Nat} {m : Wm} {x y : Int32}
theorem hasC (h : m.1 3 3 = nI n) (hn : n ≤ 8) : Ct ad μX1_has d [.ref (ad 3), .int x] m (fun r m' => m' = m ∧ YN (InN n x) r) := by
  have tn : (nI n).toInt = n := nI_toInt (by omega)
  refine v_X1_has ?_
  rw [h]
  refine ⟨fun c => ⟨rfl, 0, rfl, fun _ q => ?_, fun z => absurd rfl z⟩, fun c => ⟨fun c2 => ⟨rfl, 0, rfl, fun _ q => ?_, fun z => absurd rfl z⟩, fun c2 => ⟨rfl, 1, rfl, fun z => absurd z (by decide), fun _ => ⟨?_, ?_⟩⟩⟩⟩
  · have := y_ltr (n := 0) rfl c; have := q.1; omega
  · have := z_le c2; have := q.2; omega
  · have := y_nltr (n := 0) rfl c; omega
  · have := z_nle c2; omega
theorem knowsC (h : m.1 3 4 = nI n) (hn : n ≤ 8) : Ct ad μX1_knows d [.ref (ad 3), .int x] m (fun r m' => m' = m ∧ YN (InN n x) r) := by
  have tn : (nI n).toInt = n := nI_toInt (by omega)
  refine v_X1_knows ?_
  rw [h]
  refine ⟨fun c => ⟨rfl, 0, rfl, fun _ q => ?_, fun z => absurd rfl z⟩, fun c => ⟨fun c2 => ⟨rfl, 0, rfl, fun _ q => ?_, fun z => absurd rfl z⟩, fun c2 => ⟨rfl, 1, rfl, fun z => absurd z (by decide), fun _ => ⟨?_, ?_⟩⟩⟩⟩
  · have := y_ltr (n := 0) rfl c; have := q.1; omega
  · have := z_le c2; have := q.2; omega
  · have := y_nltr (n := 0) rfl c; omega
  · have := z_nle c2; omega
theorem meetC (h : m.1 3 3 = nI n) (hn : n ≤ 8) : Ct ad μX1_canMeet (d + 1) [.ref (ad 3), .int x, .int y] m (fun r m' => m' = m ∧ YN (Two n x y) r) := by
  refine v_X1_canMeet ((hasC (x := x) h hn).to ?_)
  rintro _ m1 ⟨eq, v1, rfl, a1, a2⟩
  obtain rfl := eq.symm
  refine ⟨v1, rfl, fun c => ⟨rfl, 0, rfl, fun _ q => a1 c q.1, fun z => absurd rfl z⟩, fun c => (hasC (x := y) h hn).to ?_⟩
  rintro _ m1 ⟨eq, v2, rfl, b1, b2⟩
  obtain rfl := eq.symm
  exact ⟨v2, rfl, fun c2 => ⟨rfl, 0, rfl, fun _ q => b1 c2 q.2.1, fun z => absurd rfl z⟩, fun c2 => ⟨fun q => ⟨rfl, 0, rfl, fun _ z => z.2.2 q, fun z => absurd rfl z⟩, fun q => ⟨rfl, 1, rfl, fun z => absurd z (by decide), fun _ => ⟨a2 c, b2 c2, q⟩⟩⟩⟩
theorem sideM (h : m.1 187 1 = nI n) (hn : n ≤ 8) : Ct ad μX12_isSide (d + 1) [.ref (ad 187), .int x] m (fun r m' => m' = m ∧ YN (InN n x) r) := by
  have tn : (nI n).toInt = n := nI_toInt (by omega)
  have t1 := ti_subc (x := nI n) (y := (1 : Int32)) (c := 1) rfl (by omega)
  have z0 : (0 : Int32).toInt = 0 := rfl
  refine (isSide_ok).to ?_
  rintro _ m' ⟨eq, rfl⟩
  rw [h]
  refine ⟨eq, _, rfl, fun c q => ?_, fun c => ?_⟩
  · have := (bz_if rfl).1 c
    exact this ⟨(fa_le _ _).mpr (by rw [z0]; exact q.1), (fa_le _ _).mpr (by have := q.2; omega)⟩
  · have c := (bz_if rfl).2 c
    have c1 := z_le c.1
    have c2 := z_le c.2
    exact ⟨by omega, by omega⟩
theorem knowM (h : m.1 187 0 = nI n) (hn : n ≤ 8) : Ct ad μX12_isArt (d + 1) [.ref (ad 187), .int x] m (fun r m' => m' = m ∧ YN (InN n x) r) := by
  have tn : (nI n).toInt = n := nI_toInt (by omega)
  have t1 := ti_subc (x := nI n) (y := (1 : Int32)) (c := 1) rfl (by omega)
  have z0 : (0 : Int32).toInt = 0 := rfl
  refine (isArt_ok).to ?_
  rintro _ m' ⟨eq, rfl⟩
  rw [h]
  refine ⟨eq, _, rfl, fun c q => ?_, fun c => ?_⟩
  · have := (bz_if rfl).1 c
    exact this ⟨(fa_le _ _).mpr (by rw [z0]; exact q.1), (fa_le _ _).mpr (by have := q.2; omega)⟩
  · have c := (bz_if rfl).2 c
    have c1 := z_le c.1
    have c2 := z_le c.2
    exact ⟨by omega, by omega⟩
theorem twoM (h : m.1 187 1 = nI n) (hn : n ≤ 8) : Ct ad μX12_areTwo (d + 2) [.ref (ad 187), .int x, .int y] m (fun r m' => m' = m ∧ YN (Two n x y) r) := by
  refine v_X12_areTwo (d := d + 1) ((sideM (d := d) (x := x) h hn).to ?_)
  rintro _ m1 ⟨eq, v1, rfl, a1, a2⟩
  obtain rfl := eq.symm
  refine ⟨v1, rfl, fun c => ⟨rfl, 0, rfl, fun _ q => a1 c q.1, fun z => absurd rfl z⟩, fun c => (sideM (d := d) (x := y) h hn).to ?_⟩
  rintro _ m1 ⟨eq, v2, rfl, b1, b2⟩
  obtain rfl := eq.symm
  exact ⟨v2, rfl, fun c2 => ⟨rfl, 0, rfl, fun _ q => b1 c2 q.2.1, fun z => absurd rfl z⟩, fun c2 => ⟨fun q => ⟨rfl, 0, rfl, fun _ z => z.2.2 q, fun z => absurd rfl z⟩, fun q => ⟨rfl, 1, rfl, fun z => absurd z (by decide), fun _ => ⟨a2 c, b2 c2, q⟩⟩⟩⟩
/-- a number from 0 to c -/
theorem inM {lo hi : Int32} {y2 y4 : Int64} (h2 : y2 = lo.toInt64) (h4 : y4 = hi.toInt64) : Ct ad μX12_in d [.long x.toInt64, .long y2, .long y4] m (fun r m' => m' = m ∧ YN (lo.toInt ≤ x.toInt ∧ x.toInt ≤ hi.toInt) r) := by
  refine (in_i h2 h4).to ?_
  rintro _ m' ⟨eq, rfl⟩
  refine ⟨eq, _, rfl, fun c q => (bz_if rfl).1 c ⟨(fa_le _ _).mpr q.1, (fa_le _ _).mpr q.2⟩, fun c => ?_⟩
  have c := (bz_if rfl).2 c
  exact ⟨z_le c.1, z_le c.2⟩
theorem thrM : Ct ad μX12_isThrown (d + 1) [.int x] m (fun r m' => m' = m ∧ YN (0 ≤ x.toInt ∧ x.toInt ≤ 3) r) := by
  refine v_X12_isThrown ((in_i (lo := 0) (hi := 3) rfl rfl).to ?_)
  rintro _ m' ⟨eq, rfl⟩
  have z0 : (0 : Int32).toInt = 0 := rfl
  have z3 : (3 : Int32).toInt = 3 := rfl
  refine ⟨_, rfl, bz_ite, eq, _, rfl, fun c q => (bz_if rfl).1 c ⟨(fa_le _ _).mpr (by omega), (fa_le _ _).mpr (by omega)⟩, fun c => ?_⟩
  have c := (bz_if rfl).2 c
  have := z_le c.1
  have := z_le c.2
  omega
theorem thr_of (h : 0 ≤ x.toInt ∧ x.toInt ≤ 3) : x = 0 ∨ x = 1 ∨ x = 2 ∨ x = 3 := by
  obtain ⟨j, hj, rfl⟩ := zn_of h.1
  have := h.2
  rw [nI_toInt hj] at this
  have : j = 0 ∨ j = 1 ∨ j = 2 ∨ j = 3 := by omega
  rcases this with rfl | rfl | rfl | rfl
  · exact Or.inl rfl
  · exact Or.inr (Or.inl rfl)
  · exact Or.inr (Or.inr (Or.inl rfl))
  · exact Or.inr (Or.inr (Or.inr rfl))
end ASK
/-! WHAT STANDS BETWEEN TWO CALLS: the league in full -/
/-- what is kept, on both sides -/
def KpG (m : Wm) (n : Nat) : Prop := ∀ i, i < 2 → m.1 (173 + 7 * i) 4 ≠ 0 → ∃ (g : GS) (il : Nat → Bool), HC (173 + 7 * i + 1) m g ∧ HL n 214 (71 * i) m g ∧ ZB n g ∧ (∀ s, s < 8 → bt (m.1 (173 + 7 * i) 2) s = il s) ∧ (∀ s, n ≤ s → il s = false) ∧ (∀ s, s < n → m.1 214 (71 * i + 57 + s) = if il s = true then 1 else 0) ∧ m.1 (173 + 7 * i) 3 = m.1 214 (71 * i + 70) ∧ 0 ≤ (m.1 (173 + 7 * i) 3).toInt ∧ (m.1 (173 + 7 * i) 3).toInt ≤ 12
def KGd (m : Wm) (g : GS) (v : EV) (H : List GS) : Prop := HC 21 m g ∧ HM (nE v) m g ∧ EC m v ∧ EM m v ∧ UnC m H ∧ UnM (nE v) m H ∧ ZB (nE v) g ∧ (∀ j, j < H.length → ZB (nE v) (gAt H j)) ∧ KpG m (nE v) ∧ NxR m
def KGc (m : Wm) (g : GS) (v : EV) (H : List GS) : Prop := HC 21 m g ∧ HM (nE v) m g ∧ EC m v ∧ EM m v ∧ UnC m H ∧ UnM (nE v) m H ∧ ZB (nE v) g ∧ (∀ j, j < H.length → ZB (nE v) (gAt H j)) ∧ KpG m (nE v)
def KG (m : Wm) : Prop := ∃ g v H, KGd m g v H
def KGL : List Nat := [1, 4, 6, 13, 23, 24, 25, 29, 40, 41, 42, 43, 44, 46, 47, 48, 49, 52, 53]
/-- without where the plan is -/
def KGN : List Nat := [1, 4, 6, 13, 23, 24, 29, 40, 41, 42, 43, 46, 47, 48, 49, 53]
section KGS
variable {ad : Nat → Nat} {d n : Nat} {m m' m1 m2 : Wm} {g : GS} {v : EV} {H : List GS} {S S1 S2 A B : List Nat}
theorem KpG.fx (h : KpG m n) (f : Fx (RS S) m m') (e13 : S.elem 13 = false) (e40 : S.elem 40 = false) : KpG m' n := fun i hi hz => by
  have r : ∀ b k, 173 ≤ b → b < 187 → m'.1 b k = m.1 b k := fun b k h1 h2 => f.at (nRS (ρ := 13) e13 (rg_13 k h1 h2))
  have q : ∀ k, m'.1 214 k = m.1 214 k := fun k => f.at (nRS (ρ := 40) e40 rfl)
  rw [r _ 4 (by omega) (by omega)] at hz
  obtain ⟨g, il, h1, h2, h3, h4, h4b, h4c, h5, h6⟩ := h i hi hz
  rw [r (173 + 7 * i) 3 (by omega) (by omega)]
  refine ⟨g, il, h1.fx (SS_i hi) f e13, h2.k (fun k _ _ => q k), h3, fun s hs => ?_, h4b, fun s hs => (q _).trans (h4c s hs), h5.trans (q _).symm, h6⟩
  rw [r (173 + 7 * i) 2 (by omega) (by omega)]
  exact h4 s hs
theorem KGc.fx (h : KGc m g v H) (f : Fx (RS S) m m') (e : (S.all fun x => !(KGN.elem x)) = true) : KGc m' g v H := by
  obtain ⟨h1, h2, h3, h4, h5, h6, h7, h8, h9⟩ := h
  have q : ∀ ρ, KGN.elem ρ = true → S.elem ρ = false := fun ρ hρ => all_ne e hρ
  have a1 : (S.all fun x => !(([1, 41, 42, 43] : List Nat).elem x)) = true := List.all_eq_true.mpr (fun x hx => by
    have := List.all_eq_true.mp e x hx
    cases c : ([1, 41, 42, 43] : List Nat).elem x with
    | false => rfl
    | true =>
      have hm := List.mem_of_elem_eq_true c
      have : x = 1 ∨ x = 41 ∨ x = 42 ∨ x = 43 := by simpa using hm
      rcases this with rfl | rfl | rfl | rfl <;> exact absurd this (by decide))
  have a2 : (S.all fun x => !(([23, 46, 47, 48] : List Nat).elem x)) = true := List.all_eq_true.mpr (fun x hx => by
    have := List.all_eq_true.mp e x hx
    cases c : ([23, 46, 47, 48] : List Nat).elem x with
    | false => rfl
    | true =>
      have hm := List.mem_of_elem_eq_true c
      have : x = 23 ∨ x = 46 ∨ x = 47 ∨ x = 48 := by simpa using hm
      rcases this with rfl | rfl | rfl | rfl <;> exact absurd this (by decide))
  exact ⟨h1.fx SS_21 f (q 4 rfl), h2.fx f (q 24 rfl) (q 49 rfl), h3.fx f a1, h4.fx f a2, h5.fx f (q 6 rfl) (q 53 rfl), h6.fx f (q 29 rfl), h7, h8, h9.fx f (q 13 rfl) (q 40 rfl)⟩
theorem KGd.of (h : KGc m g v H) (n : NxR m) : KGd m g v H := ⟨h.1, h.2.1, h.2.2.1, h.2.2.2.1, h.2.2.2.2.1, h.2.2.2.2.2.1, h.2.2.2.2.2.2.1, h.2.2.2.2.2.2.2.1, h.2.2.2.2.2.2.2.2, n⟩
theorem KGd.cc (h : KGd m g v H) : KGc m g v H := ⟨h.1, h.2.1, h.2.2.1, h.2.2.2.1, h.2.2.2.2.1, h.2.2.2.2.2.1, h.2.2.2.2.2.2.1, h.2.2.2.2.2.2.2.1, h.2.2.2.2.2.2.2.2.1⟩
theorem KGd.nx (h : KGd m g v H) : NxR m := h.2.2.2.2.2.2.2.2.2
theorem KGL_N {S : List Nat} (e : (S.all fun x => !(KGL.elem x)) = true) : (S.all fun x => !(KGN.elem x)) = true := List.all_eq_true.mpr (fun x hx => by
  have h1 := List.all_eq_true.mp e x hx
  cases c : KGN.elem x with
  | false => rfl
  | true =>
    have hm := List.mem_of_elem_eq_true c
    have hA : ∀ y ∈ KGN, y ∈ KGL := by decide
    rw [List.elem_eq_true_of_mem (hA x hm)] at h1
    exact absurd h1 (by decide))
theorem KGd.fx (h : KGd m g v H) (f : Fx (RS S) m m') (e : (S.all fun x => !(KGL.elem x)) = true) : KGd m' g v H := KGd.of (h.cc.fx f (KGL_N e)) (h.nx.fx f (all_ne e (ρ := 44) rfl) (all_ne e (ρ := 52) rfl) (all_ne e (ρ := 25) rfl))
theorem KG.fx (h : KG m) (f : Fx (RS S) m m') (e : (S.all fun x => !(KGL.elem x)) = true) : KG m' := by
  obtain ⟨g, v, H, h⟩ := h
  exact ⟨g, v, H, h.fx f e⟩
theorem KG.tr (a : (A.all fun x => !(KGL.elem x)) = true) (b : (B.all fun x => !(KGL.elem x)) = true) : TR A B KG KG := fun f1 f2 k => (k.fx f1 a).fx f2 b
theorem KG.trn (a : (A.all fun x => !(KGN.elem x)) = true) (b : (B.all fun x => !(KGN.elem x)) = true) : TRN A B KG KG := fun {m m1 m2} f1 f2 hn k => by
  obtain ⟨g, v, H, h⟩ := k
  exact ⟨g, v, H, KGd.of ((h.cc.fx f1 a).fx f2 b) (hn h.nx)⟩
end KGS
