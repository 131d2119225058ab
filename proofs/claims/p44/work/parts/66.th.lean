/-! CALLS: rest, mean, soon -/
/-- the games of a turn, from the j-th on -/
def tuG (v : EV) (pl : PLN) : Nat → Nat → GS → GS
  | 0, _, g => g
  | k + 1, j, g => tuG v pl k (j + 1) (qtG v (f1P pl j) (f2P pl j) (thP pl j) g)
def ixS (S : SSt) (f : Nat → Int32) : Option Nat := fstI (fun i => eqB (kS S i) f) (nS S) 0
/-- turn after turn till one comes again -/
def seaS (v : EV) (pl : PLN) : Nat → GS → SSt → Option Nat × SSt
  | 0, _, S => (none, S)
  | k + 1, g, S => match ixS S (tuG v pl (gmP pl) 0 g).1 with
    | some i => (some i, S)
    | none => seaS v pl k (tuG v pl (gmP pl) 0 g) (adS (tuG v pl (gmP pl) 0 g).1 0 S)
def seaG (v : EV) (pl : PLN) (g : GS) : Option Nat × SSt := seaS v pl 2000 g (s0S g.1)
def restA (v : EV) (op : Option PLN) (g : GS) : Int32 := match op with
  | none => -1
  | some pl => match (seaG v pl g).1 with
    | none => -3
    | some i => nI i
def meanA (v : EV) (op : Option PLN) (x1 x2 : Int32) (g : GS) : Int32 := if InD (nE v) x1 ∧ InD (aE v) x2 then (match op with
  | none => -1
  | some pl => match (seaG v pl g).1 with
    | none => -3
    | some _ => 0) else -1
def soA (o : Option Nat) : Option Nat → Int32
  | some i => nI i
  | none => match o with
    | none => -3
    | some _ => -2
def soonA (v : EV) (op : Option PLN) (x1 x2 x3 : Int32) (g : GS) : Int32 := if InD (nE v) x1 ∧ InD (aE v) x2 ∧ 0 ≤ x3.toInt ∧ x3.toInt ≤ 7 then (match op with
  | none => -1
  | some pl => soA (seaG v pl g).1 (fstI (skB (seaG v pl g).2 x1.toNatClampNeg x2.toNatClampNeg x3) (nS (seaG v pl g).2) 0)) else -1
section SEA
variable {ad : Nat → Nat} {d : Nat} {m m' m0 : Wm} {g : GS} {v : EV} {S : SSt} {pl : PLN} {f : Nat → Int32}
theorem fstI_b {b : Nat → Bool} : ∀ k i j, fstI b k i = some j → b j = true := by
  intro k
  induction k with
  | zero => intro i j h; cases h
  | succ k ih =>
    intro i j h
    have h' : (if b i = true then some i else fstI b k (i + 1)) = some j := h
    by_cases c : b i = true
    · rw [if_pos c] at h'
      have := Option.some.inj h'
      rw [← this]
      exact c
    · rw [if_neg c] at h'
      exact ih _ _ h'
theorem fstI_none {b : Nat → Bool} : ∀ k i, fstI b k i = none → ∀ j, i ≤ j → j < i + k → b j = false := by
  intro k
  induction k with
  | zero => intro i h j h1 h2; omega
  | succ k ih =>
    intro i h j h1 h2
    have h' : (if b i = true then some i else fstI b k (i + 1)) = none := h
    by_cases c : b i = true
    · rw [if_pos c] at h'; cases h'
    · rw [if_neg c] at h'
      by_cases q : j = i
      · rw [q]
        cases e : b i with
        | false => rfl
        | true => exact absurd e c
      · exact ih _ h' j (by omega) (by omega)
/-- no two states alike -/
def UqS (S : SSt) : Prop := ∀ i j f, i < nS S → j < nS S → EQ32 (kS S i) f → EQ32 (kS S j) f → i = j
theorem ixS_some (u : UqS S) {i : Nat} (hi : i < nS S) (e : EQ32 (kS S i) f) : ixS S f = some i := by
  cases h : ixS S f with
  | none => exact absurd (eqB_iff.mpr e) (by rw [fstI_none _ _ h i (Nat.zero_le _) (by omega)]; decide)
  | some j =>
    have hj := fstI_lt _ _ _ h
    have ej := eqB_iff.mp (fstI_b _ _ _ h)
    rw [u i j f hi (by omega) e ej]
theorem ixS_none (n : ¬ InS S f) : ixS S f = none := by
  cases h : ixS S f with
  | none => rfl
  | some j =>
    have hj := fstI_lt _ _ _ h
    exact absurd ⟨j, by omega, eqB_iff.mp (fstI_b _ _ _ h)⟩ n
theorem SC.uq (h : SC m S) : UqS S := fun i j f hi hj e1 e2 => by
  obtain ⟨a1, a2, -⟩ := h.2 i hi
  obtain ⟨b1, b2, -⟩ := h.2 j hj
  obtain ⟨q1, q2⟩ := pk_e32 (e1.trans e2.symm)
  exact h.1.2.2.2.2.2 i j hi hj (by rw [a1, b1, q1]) (by rw [a2, b2, q2])
theorem SM.uq (h : SM m S) : UqS S := fun i j f hi hj e1 e2 => by
  obtain ⟨a1, a2, -⟩ := h.2.1 i hi
  obtain ⟨b1, b2, -⟩ := h.2.1 j hj
  obtain ⟨q1, q2⟩ := mk_e32 (e1.trans e2.symm)
  exact h.1.2.2.2.2.2 i j hi hj (by rw [a1, b1, q1]) (by rw [a2, b2, q2])
theorem seaS_f {k : Nat} {i : Nat} (h : ixS S (tuG v pl (gmP pl) 0 g).1 = some i) : seaS v pl (k + 1) g S = (some i, S) := by
  show (match ixS S (tuG v pl (gmP pl) 0 g).1 with | some i => (some i, S) | none => seaS v pl k (tuG v pl (gmP pl) 0 g) (adS (tuG v pl (gmP pl) 0 g).1 0 S)) = _
  rw [h]
theorem seaS_n {k : Nat} (h : ixS S (tuG v pl (gmP pl) 0 g).1 = none) : seaS v pl (k + 1) g S = seaS v pl k (tuG v pl (gmP pl) 0 g) (adS (tuG v pl (gmP pl) 0 g).1 0 S) := by
  show (match ixS S (tuG v pl (gmP pl) 0 g).1 with | some i => (some i, S) | none => seaS v pl k (tuG v pl (gmP pl) 0 g) (adS (tuG v pl (gmP pl) 0 g).1 0 S)) = _
  rw [h]
theorem tuG_2 : ∀ k j (g : GS), (tuG v pl k j g).2 = g.2 := by
  intro k
  induction k with
  | zero => intro j g; rfl
  | succ k ih =>
    intro j g
    exact (ih (j + 1) _).trans stl_f2
theorem tuG_z (hp : PlnOK v pl) (h4 : aE v ≤ 4) : ∀ k j (g : GS), j + k ≤ gmP pl → ZB v g → ZB v (tuG v pl k j g) := by
  intro k
  induction k with
  | zero => intro j g _ h; exact h
  | succ k ih =>
    intro j g hj h
    obtain ⟨c1, c2, -, -⟩ := hp.2.2.2.2 j (by omega)
    exact ih (j + 1) _ (by omega) (h.qt c1 c2 h4)
/-! the class -/
theorem playTurnC (hp : PlnOK v pl) (w0 : WT m) (h : HC 167 m g) (hE : EC m v) {P Q : Nat} (hR : PRF m P Q) (hP : PlnC m pl) : Ct ad μX7_playTurn (d + 5) [.ref (ad 166), .ref (ad 3), .ref (ad P)] m (fun r m' => r = none ∧ WT m' ∧ Fx (RS [2, 12, 14]) m m' ∧ HC 167 m' (tuG v pl (gmP pl) 0 g)) := by
  obtain ⟨a1, a2, a3, a4, a5⟩ := hp
  obtain ⟨q1, q2, q3⟩ := hR.pl
  have L : ∀ k j (g1 : GS) (m1 : Wm), j + k = gmP pl → tuG v pl k j g1 = tuG v pl (gmP pl) 0 g → WT m1 → Fx (RS [2, 12, 14]) m m1 → HC 167 m1 g1 → AW ad E0 μX7_playTurn (d + 5) (fun r m' => r = none ∧ WT m' ∧ Fx (RS [2, 12, 14]) m m' ∧ HC 167 m' (tuG v pl (gmP pl) 0 g)) 2 [(0, .ref (ad 166)), (1, .ref (ad 3)), (2, .ref (ad P)), (3, .int (nI j))] [] m1 := by
    intro k
    induction k with
    | zero =>
      intro j g1 m1 hj hT w1 f1 h1
      obtain rfl : j = gmP pl := hj
      obtain ⟨P', Q', hR', p1, p2, p3, p4⟩ := hP.fx f1 rfl rfl
      have eP : P' = P := Option.some.inj (hR'.1.symm.trans ((hR.fx f1 rfl).1))
      subst eP
      have hT' : g1 = tuG v pl (gmP pl) 0 g := hT
      exact g_X7_playTurn_2 (d := d + 4) q2 ⟨fun _ => ⟨rfl, w1, f1, by rw [← hT']; exact h1⟩, fun c => absurd (by rw [p2]; exact (nI_leI (by omega) (by omega)).mpr (Nat.le_refl _)) c⟩
    | succ k ih =>
      intro j g1 m1 hj hT w1 f1 h1
      obtain ⟨P', Q', hR', p1, p2, p3, p4⟩ := hP.fx f1 rfl rfl
      have eP : P' = P := Option.some.inj (hR'.1.symm.trans ((hR.fx f1 rfl).1))
      subst eP
      have hPQ := hR'.2.2
      obtain ⟨b1, b2, b3⟩ := p3 j (by omega)
      obtain ⟨c1, c2, c3, c4⟩ := a5 j (by omega)
      have E1 := hE.fx f1 rfl
      have n8 := E1.2.2.1
      have V : vp_in (nI j) 48 := nat_in (by omega) (by decide)
      refine g_X7_playTurn_2 (d := d + 4) q2 ⟨fun c => absurd (by rw [p2] at c; exact (nI_leI (by omega) (by omega)).mp c) (by omega), fun _ => ⟨V, V, V, ?_⟩⟩
      rw [nI_clamp (by omega), b1, b2, b3]
      refine (resultC (d := d) SS_167 G12 w1 h1 E1 (by omega) (by omega) c4).to ?_
      rintro _ m2 ⟨w2, f2, rfl⟩
      have e1 : m2.1 (P' + 1) j = nI (f1P pl j) := (f2.at (n7 rfl j (by omega) (by omega))).trans b1
      have e2 : m2.1 (P' + 2) j = nI (f2P pl j) := (f2.at (n7 rfl j (by omega) (by omega))).trans b2
      refine ⟨_, rfl, V, V, ?_⟩
      rw [e1, e2, nI_1]
      refine (settleC (d := d + 1) (cn := false) SS_167 G12 w2 (h1.fx SS_167 f2 rfl) (E1.fx f2 rfl) (by omega) (by omega) c3 (by decide)).to ?_
      rintro _ m3 ⟨rfl, w3, f3, h3⟩
      exact ⟨rfl, ih (j + 1) _ m3 (by omega) hT w3 ((f1.tr f2 (RS_sub rfl)).tr f3 (RS_sub rfl)) h3⟩
  exact v_X7_playTurn (d := d + 4) q2 (L (gmP pl) 0 g m (by omega) rfl w0 Fx.rf h)
/-- what a season leaves behind -/
def sQ (v : EV) (T : Option Nat × SSt) (m0 : Wm) (r : Option Value) (m' : Wm) : Prop := WT m' ∧ Fx (RS [2, 10, 12, 14]) m0 m' ∧ SC m' T.2 ∧ ((∃ i, i < 3000 ∧ T.1 = some i ∧ r = some (.int 1) ∧ m'.1 166 3 = nI i) ∨ (T.1 = none ∧ r = some (.int 0)))
theorem loop_30 (hp : PlnOK v pl) {P Q : Nat} {T : Option Nat × SSt} : ∀ (k t : Nat) (g1 : GS) (S : SSt) (m1 : Wm), t + k = 2001 → nS S = t → seaS v pl k g1 S = T → WT m1 → Fx (RS [2, 10, 12, 14]) m0 m1 → SC m1 S → HC 167 m1 g1 → EC m1 v → PRF m1 P Q → PlnC m1 pl → ZB v g1 → AW ad E0 μX7_findLoop (d + 6) (sQ v T m0) 30 [(0, .ref (ad 166)), (1, .ref (ad 3)), (2, .ref (ad P)), (4, .int (nI t))] [] m1 := by
  intro k
  induction k with
  | zero =>
    intro t g1 S m1 ht hn hT w1 f1 s1 h1 e1 r1 p1 z1
    obtain rfl : t = 2001 := ht
    obtain ⟨q1, q2, q3⟩ := r1.pl
    have hT' : (none, S) = T := hT
    subst hT'
    exact g_X7_findLoop_30 (d := d + 5) q2 ⟨fun _ => ⟨w1, f1, s1, Or.inr ⟨rfl, rfl⟩⟩, fun c => absurd (by decide) c⟩
  | succ k ih =>
    intro t g1 S m1 ht hn hT w1 f1 s1 h1 e1 r1 p1 z1
    obtain ⟨q1, q2, q3⟩ := r1.pl
    refine g_X7_findLoop_30 (d := d + 5) q2 ⟨fun c => absurd ((lt_l 2000 2000 rfl (by decide) (by omega)).mp c) (by omega), fun _ => (playTurnC (d := d) hp w1 h1 e1 r1 p1).to ?_⟩
    rintro _ m2 ⟨rfl, w2, f2, h2⟩
    have z2 := tuG_z hp e1.2.2.2.1 (gmP pl) 0 g1 (by omega) z1
    have hT0 := hT
    have E2 : ∀ i, ixS S (tuG v pl (gmP pl) 0 g1).1 = some i → T = (some i, S) := fun i e => by rw [← hT]; exact seaS_f e
    have E3 : ixS S (tuG v pl (gmP pl) 0 g1).1 = none → T = seaS v pl k (tuG v pl (gmP pl) 0 g1) (adS (tuG v pl (gmP pl) 0 g1).1 0 S) := fun e => by rw [← hT]; exact seaS_n e
    generalize tuG v pl (gmP pl) 0 g1 = g2 at h2 z2 E2 E3
    refine ⟨rfl, (putSkC (d := d + 3) (f := g2.1) (p := g2.2) w2 SS_167 h2 z2.1.2 (s1.fx f2 rfl)).to ?_⟩
    rintro r m3 ⟨w3, f3, q⟩
    have F3 : Fx (RS [2, 10, 12, 14]) m0 m3 := (f1.tr f2 (RS_sub rfl)).tr f3 (RS_sub rfl)
    rcases q with ⟨i, hi, ei, rfl, s3, c3⟩ | ⟨-, q, -⟩ | ⟨ni, -, rfl, c3, s3⟩
    · have e := E2 i (ixS_some s1.uq hi ei)
      subst e
      have ti : (nI i).toInt = (i : Int) := nI_toInt (by omega)
      have F : Fx (RS [12]) m3 (uI (uI m3 166 3 (nI i)) 166 4 (nI t - nI i)) := Fx.i (Fx.i Fx.rf rfl) rfl
      refine ⟨_, rfl, fun c => absurd c3 c, fun _ => ⟨(w3.t rfl (by omega) (by omega)).n rfl, F3.tr F (RS_sub rfl), s3.fx F rfl, Or.inl ⟨i, by omega, rfl, rfl, ?_⟩⟩⟩
      exact (u_ne (by omega)).trans u_eq
    · omega
    · have e := E3 (ixS_none ni)
      refine ⟨_, rfl, fun _ => ?_, fun c => absurd (c3.symm.trans c) (by decide)⟩
      rw [nI_1]
      exact ih (t + 1) g2 _ m3 (by omega) (by rw [adS_n, hn]) e.symm w3 F3 (s3 0) (h2.fx SS_167 f3 rfl) ((e1.fx f2 rfl).fx f3 rfl) ((r1.fx f2 rfl).fx f3 rfl) ((p1.fx f2 rfl rfl).fx f3 rfl rfl) z2
theorem findLoopC (hp : PlnOK v pl) (w0 : WT m) (hW : SWx m) (hc : HC 21 m g) (hE : EC m v) (hz : ZB v g) {P Q : Nat} (hR : PRF m P Q) (hP : PlnC m pl) : Ct ad μX7_findLoop (d + 6) [.ref (ad 166), .ref (ad 3), .ref (ad P), .ref (ad 21)] m (sQ v (seaG v pl g) m) := by
  obtain ⟨q1, q2, q3⟩ := hR.pl
  refine v_X7_findLoop (d := d + 5) q2 SS_21.1 ((copyC (d := d + 4) w0 SS_167 SS_21 (Or.inl (by decide)) hc).to ?_)
  rintro _ m1 ⟨rfl, w1, f1, h1⟩
  obtain ⟨N, hW1⟩ := hW.fx f1 rfl
  refine ⟨rfl, (clearC (d := d + 5) w1 hW1).to ?_⟩
  rintro _ m2 ⟨rfl, w2, f2, t2⟩
  have h2 : HC 167 m2 (g.1, g.2) := h1.fx SS_167 f2 rfl
  have s2 : SC m2 (0, (fun _ => g.1), fun _ => 0) := ⟨t2, fun i hi => absurd hi (Nat.not_lt_zero i)⟩
  refine ⟨rfl, (putSkC (d := d + 3) w2 SS_167 h2 hz.1.2 s2).to ?_⟩
  rintro r m3 ⟨w3, f3, q⟩
  rcases q with ⟨i, hi, -⟩ | ⟨-, q, -⟩ | ⟨-, -, rfl, -, s3⟩
  · exact absurd hi (Nat.not_lt_zero i)
  · exact absurd (show (0 : Nat) < 3000 by decide) q
  have s3' := s3 0
  rw [s0S_e] at s3'
  exact ⟨_, rfl, loop_30 (d := d) hp 2000 1 g (s0S g.1) m3 rfl rfl rfl w3 ((((Fx.rf (S := RS [2, 10, 12, 14])).tr f1 (RS_sub rfl)).tr f2 (RS_sub rfl)).tr f3 (RS_sub rfl)) s3' (h2.fx SS_167 f3 rfl) (((hE.fx f1 rfl).fx f2 rfl).fx f3 rfl) (((hR.fx f1 rfl).fx f2 rfl).fx f3 rfl) (((hP.fx f1 rfl rfl).fx f2 rfl rfl).fx f3 rfl rfl) hz⟩
def oQ (m : Wm) (x : Int32) (r : Option Value) (m' : Wm) : Prop := WT m' ∧ Fx (RS [2, 9, 10, 12, 14]) m m' ∧ SWx m' ∧ r = some (.int x)
theorem oq_1 {x y : Int32} (w : WT m) (h : SWx m) (e : x = y) : oQ m x (some (.int y)) m := e ▸ ⟨w, Fx.rf, h, rfl⟩
theorem oq_2 {x y : Int32} {R : List Nat} {S : SSt} (F : Fx (RS [2, 10, 12, 14]) m0 m) (s : SC m S) (w : WT m') (f : Fx (RS R) m m') (e1 : (R.all fun x => ([2, 9, 10, 12, 14] : List Nat).elem x) = true) (e2 : R.elem 10 = false) (e : x = y) : oQ m0 x (some (.int y)) m' := e ▸ ⟨w, ((Fx.rf (S := RS [2, 9, 10, 12, 14])).tr F (RS_sub rfl)).tr f (RS_sub e1), s.sw.fx f e2, rfl⟩
theorem e_restC {op : Option PLN} (w0 : WT m) (hW : SWx m) (hc : HC 21 m g) (hE : EC m v) (hz : ZB v g) (hp : PlO v m op) : Ct ad μX11_rest (d + 7) [.ref (ad 0)] m (oQ m (restA v op g)) := by
  obtain ⟨P, k1, k2, k3⟩ := hp.c
  refine v_X11_rest (d := d + 6) ⟨P, k1, k2, fun c => ?_, fun c => ?_⟩
  · cases op with
    | none => exact absurd (k3.mpr rfl) c
    | some pl =>
      obtain ⟨hok, hP, -⟩ := hp
      obtain ⟨P', Q', hR, -⟩ := id hP
      have eP : P' = P := Option.some.inj (hR.1.symm.trans k1)
      subst eP
      refine ⟨P', k1, k2, (findLoopC (d := d) hok w0 hW hc hE hz hR hP).to ?_⟩
      rintro r m1 ⟨w1, f1, s1, q⟩
      rcases q with ⟨i, hi, e, rfl, c3⟩ | ⟨e, rfl⟩
      · have t3 := w1.at (a := 166) (k := 3) rfl
        refine ⟨1, rfl, fun _ => (s_X9_total (d := d + 5) w1 (by omega) (by omega)).to ?_, fun q => absurd q (by decide)⟩
        rintro _ m2 ⟨w2, f2, v2, rfl⟩
        refine ⟨v2, rfl, (s_X11_tell_ w2).to ?_⟩
        rintro _ m3 ⟨w3, f3, rfl⟩
        have F3 : Fx (RS [9]) m1 m3 := ((Fx.rf (S := RS [9])).tr f2 (RS_sub rfl)).tr f3 (RS_sub rfl)
        have e3 : m3.1 166 3 = nI i := (F3.at (nRS (ρ := 12) rfl rfl)).trans c3
        refine ⟨rfl, ?_⟩
        rw [e3]
        refine oq_2 f1 s1 w3 F3 rfl rfl ?_
        show (match (seaG v pl g).1 with | none => (-3 : Int32) | some i => nI i) = nI i
        rw [e]
      · refine ⟨0, rfl, fun q => absurd rfl q, fun _ => oq_2 f1 s1 w1 (Fx.rf (S := RS [])) rfl rfl ?_⟩
        show (match (seaG v pl g).1 with | none => (-3 : Int32) | some i => nI i) = -3
        rw [e]
  · have e := k3.mp c
    subst e
    exact oq_1 w0 hW rfl
theorem e_meanC {op : Option PLN} {x1 x2 : Int32} (w0 : WT m) (hW : SWx m) (hc : HC 21 m g) (hE : EC m v) (hz : ZB v g) (hp : PlO v m op) : Ct ad μX11_mean (d + 7) [.ref (ad 0), .int x1, .int x2] m (oQ m (meanA v op x1 x2 g)) := by
  have n8 := hE.2.2.1
  have no : ¬ (InD (nE v) x1 ∧ InD (aE v) x2) → oQ m (meanA v op x1 x2 g) (some (.int (-1))) m := fun z => oq_1 w0 hW (if_neg z)
  refine v_X11_mean (d := d + 6) ((hasC (d := d + 6) (x := x1) hE.1 n8).to ?_)
  rintro _ m1 ⟨eq, v1, rfl, y1, y2⟩
  obtain rfl := eq.symm
  refine ⟨v1, rfl, fun c => no (fun z => y1 c z.1), fun c => (knowsC (d := d + 6) (x := x2) hE.2.1 (by have := hE.2.2.2.1; omega)).to ?_⟩
  rintro _ m1 ⟨eq, v2, rfl, y3, y4⟩
  obtain rfl := eq.symm
  refine ⟨v2, rfl, fun c => no (fun z => y3 c z.2), fun c2 => ?_⟩
  have hin : InD (nE v) x1 ∧ InD (aE v) x2 := ⟨y2 c, y4 c2⟩
  obtain ⟨P, k1, k2, k3⟩ := hp.c
  refine ⟨P, k1, k2, fun c => ?_, fun c => ?_⟩
  · cases op with
    | none => exact absurd (k3.mpr rfl) c
    | some pl =>
      obtain ⟨hok, hP, -⟩ := hp
      obtain ⟨P', Q', hR, -⟩ := id hP
      have eP : P' = P := Option.some.inj (hR.1.symm.trans k1)
      subst eP
      have eA : meanA v (some pl) x1 x2 g = (match (seaG v pl g).1 with | none => (-3 : Int32) | some _ => 0) := if_pos hin
      rw [eA]
      refine ⟨P', k1, k2, (findLoopC (d := d) hok w0 hW hc hE hz hR hP).to ?_⟩
      rintro r m1 ⟨w1, f1, s1, q⟩
      rcases q with ⟨i, hi, e, rfl, c3⟩ | ⟨e, rfl⟩
      · refine ⟨1, rfl, fun _ => (s_X7_loopSum (d := d + 5) w1).to ?_, fun q => absurd q (by decide)⟩
        rintro _ m2 ⟨w2, f2, v2, rfl⟩
        refine ⟨v2, rfl, (s_X11_tellFraction (d := d + 5) w2).to ?_⟩
        rintro _ m3 ⟨w3, f3, rfl⟩
        exact ⟨rfl, oq_2 f1 s1 w3 (((Fx.rf (S := RS [9])).tr f2 (RS_sub rfl)).tr f3 (RS_sub rfl)) rfl rfl (by rw [e])⟩
      · exact ⟨0, rfl, fun q => absurd rfl q, fun _ => oq_2 f1 s1 w1 (Fx.rf (S := RS [])) rfl rfl (by rw [e])⟩
  · have e := k3.mp c
    subst e
    exact oq_1 w0 hW (if_pos hin)
theorem e_soonC {op : Option PLN} {x1 x2 x3 : Int32} (w0 : WT m) (hW : SWx m) (hc : HC 21 m g) (hE : EC m v) (hz : ZB v g) (hp : PlO v m op) : Ct ad μX11_soon (d + 7) [.ref (ad 0), .int x1, .int x2, .int x3] m (oQ m (soonA v op x1 x2 x3 g)) := by
  have n8 := hE.2.2.1
  have no : ¬ (InD (nE v) x1 ∧ InD (aE v) x2 ∧ 0 ≤ x3.toInt ∧ x3.toInt ≤ 7) → oQ m (soonA v op x1 x2 x3 g) (some (.int (-1))) m := fun z => oq_1 w0 hW (if_neg z)
  refine v_X11_soon (d := d + 6) ((hasC (d := d + 6) (x := x1) hE.1 n8).to ?_)
  rintro _ m1 ⟨eq, v1, rfl, y1, y2⟩
  obtain rfl := eq.symm
  refine ⟨v1, rfl, fun c => no (fun z => y1 c z.1), fun c => (knowsC (d := d + 6) (x := x2) hE.2.1 (by have := hE.2.2.2.1; omega)).to ?_⟩
  rintro _ m1 ⟨eq, v2, rfl, y3, y4⟩
  obtain rfl := eq.symm
  refine ⟨v2, rfl, fun c => no (fun z => y3 c z.2.1), fun c2 => ⟨fun c3 => no (fun z => ?_), fun c3 => ⟨fun c4 => no (fun z => ?_), fun c4 => ?_⟩⟩⟩
  · have := y_ltr (n := 0) rfl c3
    have := z.2.2.1
    omega
  · have := y_ltl (n := 7) rfl c4
    have := z.2.2.2
    omega
  have h1 := y2 c
  have h2 := y4 c2
  have k3' := y_nltr (n := 0) rfl c3
  have k4' := y_nltl (n := 7) rfl c4
  obtain ⟨s, hs, rfl⟩ := h1.of
  obtain ⟨a, ha, rfl⟩ := h2.of
  have h4 := hE.2.2.2.1
  obtain ⟨P, k1, k2, k3⟩ := hp.c
  refine ⟨P, k1, k2, fun c => ?_, fun c => ?_⟩
  · cases op with
    | none => exact absurd (k3.mpr rfl) c
    | some pl =>
      obtain ⟨hok, hP, -⟩ := hp
      obtain ⟨P', Q', hR, -⟩ := id hP
      have eP : P' = P := Option.some.inj (hR.1.symm.trans k1)
      subst eP
      have eA : soonA v (some pl) (nI s) (nI a) x3 g = soA (seaG v pl g).1 (fstI (skB (seaG v pl g).2 s a x3) (nS (seaG v pl g).2) 0) := by
        unfold soonA
        rw [if_pos ⟨h1, h2, k3', k4'⟩, nI_clamp (by omega), nI_clamp (by omega)]
      rw [eA]
      refine ⟨P', k1, k2, (findLoopC (d := d) hok w0 hW hc hE hz hR hP).to ?_⟩
      rintro r m1 ⟨w1, f1, s1, q⟩
      have hN := s1.n
      have FW := firstC (ad := ad) (d := d + 5) (x := x3) s1 (s := s) (a := a) (by omega) (by omega)
      generalize hT : seaG v pl g = T at s1 q FW hN ⊢
      obtain ⟨o, S⟩ := T
      have G : ∀ x8 : Int32, ((o = none ∧ x8 = 0) ∨ (∃ i, o = some i ∧ x8 = 1)) → ((ixA (fstI (skB S s a x3) (nS S) 0) < 0 → (x8 = 0 → oQ m (soA o (fstI (skB S s a x3) (nS S) 0)) (some (.int (-3))) m1) ∧ (¬ x8 = 0 → oQ m (soA o (fstI (skB S s a x3) (nS S) 0)) (some (.int (-2))) m1)) ∧ (¬ ixA (fstI (skB S s a x3) (nS S) 0) < 0 → oQ m (soA o (fstI (skB S s a x3) (nS S) 0)) (some (.int (ixA (fstI (skB S s a x3) (nS S) 0)))) m1)) := by
        intro x8 h8
        have fi := fst_in (S := S) (b := skB S s a x3)
        generalize fstI (skB S s a x3) (nS S) 0 = z at fi ⊢
        have fin : ∀ y : Int32, soA o z = y → oQ m (soA o z) (some (.int y)) m1 := fun y hy => oq_2 f1 s1 w1 (Fx.rf (S := RS [])) rfl rfl hy
        cases z with
        | none =>
          refine ⟨fun _ => ⟨fun q8 => fin _ ?_, fun q8 => fin _ ?_⟩, fun c => absurd (by decide) c⟩
          · rcases h8 with ⟨rfl, -⟩ | ⟨i, -, q⟩
            · rfl
            · rw [q] at q8; exact absurd q8 (by decide)
          · rcases h8 with ⟨-, q⟩ | ⟨i, rfl, -⟩
            · exact absurd q q8
            · rfl
        | some i =>
          have hi := fi i rfl
          have hN' : nS S ≤ 3000 := hN
          exact ⟨fun c => absurd ((l_lt 0 0 rfl (by decide) (by omega)).mp c) (by omega), fun _ => fin _ rfl⟩
      rcases q with ⟨i, hi, e, rfl, -⟩ | ⟨e, rfl⟩
      · refine ⟨1, rfl, FW.to ?_⟩
        rintro _ m2 ⟨eq, rfl⟩
        obtain rfl := eq.symm
        exact ⟨_, rfl, G 1 (Or.inr ⟨i, e, rfl⟩)⟩
      · refine ⟨0, rfl, FW.to ?_⟩
        rintro _ m2 ⟨eq, rfl⟩
        obtain rfl := eq.symm
        exact ⟨_, rfl, G 0 (Or.inl ⟨e, rfl⟩)⟩
  · have e := k3.mp c
    subst e
    refine oq_1 w0 hW ?_
    unfold soonA
    rw [if_pos ⟨h1, h2, k3', k4'⟩]
/-! the model -/
theorem goTurnX (hp : PlnOK v pl) (w0 : WT m) {g0 : GS} (h : HX (nE v) m g) (hE : EM m v) (hL : HL (nE v) 204 0 m g0) (h2 : g.2 = g0.2) (hP : PlnM m pl) : Ct ad μX12_goTurn (d + 171) [.ref (ad 187)] m (fun r m' => r = none ∧ WT m' ∧ Fx (RS [22, 24, 28]) m m' ∧ HX (nE v) m' (tuG v pl (gmP pl) 0 g)) := by
  obtain ⟨a1, a2, a3, a4, a5⟩ := hp
  have n8 := hE.2.2.1
  have L : ∀ k j (g1 : GS) (m1 : Wm), j + k = gmP pl → tuG v pl k j g1 = tuG v pl (gmP pl) 0 g → g1.2 = g0.2 → WT m1 → Fx (RS [22, 24, 28]) m m1 → HX (nE v) m1 g1 → AW ad E0 μX12_goTurn (d + 171) (fun r m' => r = none ∧ WT m' ∧ Fx (RS [22, 24, 28]) m m' ∧ HX (nE v) m' (tuG v pl (gmP pl) 0 g)) 2 [(0, .ref (ad 187)), (1, .int (nI j))] [] m1 := by
    intro k
    induction k with
    | zero =>
      intro j g1 m1 hj hT g2 w1 f1 h1
      obtain rfl : j = gmP pl := hj
      have p2 := (hP.fx f1 rfl rfl).2.1
      have hT' : g1 = tuG v pl (gmP pl) 0 g := hT
      exact g_X12_goTurn_2 (d := d + 170) ⟨fun _ => ⟨rfl, w1, f1, by rw [← hT']; exact h1⟩, fun c => absurd (by rw [p2]; exact (nI_leI (by omega) (by omega)).mpr (Nat.le_refl _)) c⟩
    | succ k ih =>
      intro j g1 m1 hj hT g2 w1 f1 h1
      obtain ⟨p1, p2, p3⟩ := hP.fx f1 rfl rfl
      obtain ⟨b1, b2, b3, -⟩ := p3 j (by omega)
      obtain ⟨c1, c2, c3, c4⟩ := a5 j (by omega)
      refine g_X12_goTurn_2 (d := d + 170) ⟨fun c => absurd (by rw [p2] at c; exact (nI_leI (by omega) (by omega)).mp c) (by omega), fun _ => ?_⟩
      rw [l_mul 4 4 rfl, nI_1, add_l 2 2 rfl, nI_clamp (by omega), nI_clamp (by omega), nI_clamp (by omega), b1, b2, b3, nI_1]
      refine ⟨nat_in (by omega) (by decide), nat_in (by omega) (by decide), nat_in (by omega) (by decide), (goQuietX (d := d) (g0 := g0) w1 h1 (hE.fx f1 rfl) (hL.fx f1 (fun _ => rfl) rfl) g2 c1 c2 c3 c4).to ?_⟩
      rintro _ m2 ⟨rfl, w2, f2, hx2⟩
      exact ⟨rfl, ih (j + 1) _ m2 (by omega) hT (stl_f2.trans g2) w2 (f1.tr f2 (fun _ _ h => h)) hx2⟩
  exact v_X12_goTurn (d := d + 170) (L (gmP pl) 0 g m (by omega) rfl h2 w0 Fx.rf h)
def rQ (v : EV) (g : GS) (T : Option Nat × SSt) (m0 : Wm) (r : Option Value) (m' : Wm) : Prop := WT m' ∧ Fx (RS [22, 24, 28, 34, 35, 49]) m0 m' ∧ HM (nE v) m' g ∧ HL (nE v) 204 0 m' g ∧ EM m' v ∧ SM m' T.2 ∧
  ((∃ i l, T.1 = some i ∧ i < nS T.2 ∧ r = some (.int 1) ∧ m'.1 187 45 = nI i ∧ m'.1 187 46 = nI l ∧ 1 ≤ l ∧ i + l ≤ 2000) ∨ (T.1 = none ∧ r = some (.int 0)))
/-- between two turns -/
def RJ (v : EV) (pl : PLN) (g g1 : GS) (S : SSt) (m0 m : Wm) : Prop := WT m ∧ Fx (RS [22, 24, 28, 34, 35, 49]) m0 m ∧ ST m ∧ SM m S ∧ HL (nE v) 204 0 m g ∧ EM m v ∧ HX (nE v) m g1 ∧ PlnM m pl ∧ ZB v g1 ∧ g1.2 = g.2
theorem r_90 {T : Option Nat × SSt} {x1 : Int32} (w1 : WT m) (f1 : Fx (RS [22, 24, 28, 34, 35, 49]) m0 m) (sm : SM m T.2) (hl : HL (nE v) 204 0 m g) (em : EM m v) (hq : (∃ i l, T.1 = some i ∧ i < nS T.2 ∧ x1 = 1 ∧ m.1 187 45 = nI i ∧ m.1 187 46 = nI l ∧ 1 ≤ l ∧ i + l ≤ 2000) ∨ (T.1 = none ∧ x1 = 0)) : AW ad E0 μX12_findRest (d + 177) (rQ v g T m0) 90 [(0, .ref (ad 187)), (1, .int x1)] [] m := by
  refine g_X12_findRest_90 (d := d + 176) ((bringH (x := 0) (na := 57) rfl (by decide) (by decide) w1 hl (by decide)).to ?_)
  rintro _ m2 ⟨rfl, w2, f2, H2⟩
  have e1 := f2.at (a := 187) (k := 45) (nRS (ρ := 35) rfl rfl)
  have e2 := f2.at (a := 187) (k := 46) (nRS (ρ := 35) rfl rfl)
  refine ⟨rfl, ?_, w2, f1.tr f2 (RS_sub rfl), H2, hl.fx f2 (fun _ => rfl) rfl, em.fx f2 rfl, sm.fx f2 rfl, ?_⟩
  · rcases hq with ⟨i, l, -, -, q, -⟩ | ⟨-, q⟩
    · exact Or.inr q
    · exact Or.inl q
  · rcases hq with ⟨i, l, q1, q2, q3, q4, q5, q6, q7⟩ | ⟨q1, q2⟩
    · exact Or.inl ⟨i, l, q1, q2, by rw [q3], by rw [e1, q4], by rw [e2, q5], q6, q7⟩
    · exact Or.inr ⟨q1, by rw [q2]⟩
theorem rest_18 (hp : PlnOK v pl) {T : Option Nat × SSt} : ∀ (k t : Nat) (g1 : GS) (S : SSt) (m1 : Wm), t + k = 2001 → nS S = t → seaS v pl k g1 S = T → RJ v pl g g1 S m0 m1 → AW ad E0 μX12_findRest (d + 177) (rQ v g T m0) 18 [(0, .ref (ad 187)), (1, .int 0), (2, .int (nI t))] [] m1 := by
  intro k
  induction k with
  | zero =>
    intro t g1 S m1 ht hn hT h
    obtain rfl : t = 2001 := ht
    have hT' : (none, S) = T := hT
    subst hT'
    obtain ⟨w1, f1, s1, sm, hl, em, hx, hP, z1, e2⟩ := h
    exact g_X12_findRest_18 (d := d + 176) ⟨fun _ => r_90 (d := d) w1 f1 sm hl em (Or.inr ⟨rfl, rfl⟩), fun c => absurd (by decide) c⟩
  | succ k ih =>
    intro t g1 S m1 ht hn hT h
    obtain ⟨w1, f1, s1, sm, hl, em, hx, hP, z1, e2⟩ := h
    refine g_X12_findRest_18 (d := d + 176) ⟨fun c => absurd ((lt_l 2000 2000 rfl (by decide) (by omega)).mp c) (by omega), fun _ => ⟨fun c => absurd rfl c, fun _ => (goTurnX (d := d + 5) hp w1 hx em hl e2 hP).to ?_⟩⟩
    rintro _ m2 ⟨rfl, w2, f2, hx2⟩
    have z2 := tuG_z hp em.2.2.2.1 (gmP pl) 0 g1 (by omega) z1
    have g22 : (tuG v pl (gmP pl) 0 g1).2 = g.2 := (tuG_2 _ _ _).trans e2
    have E2 : ∀ i, ixS S (tuG v pl (gmP pl) 0 g1).1 = some i → T = (some i, S) := fun i e => by rw [← hT]; exact seaS_f e
    have E3 : ixS S (tuG v pl (gmP pl) 0 g1).1 = none → T = seaS v pl k (tuG v pl (gmP pl) 0 g1) (adS (tuG v pl (gmP pl) 0 g1).1 0 S) := fun e => by rw [← hT]; exact seaS_n e
    generalize tuG v pl (gmP pl) 0 g1 = g2 at hx2 z2 g22 E2 E3
    have sm2 := sm.fx f2 rfl
    have s2 := s1.fx f2 rfl
    have hl2 := hl.fx f2 (fun _ => rfl) rfl
    have em2 := em.fx f2 rfl
    have hP2 := hP.fx f2 rfl rfl
    have F2 : Fx (RS [22, 24, 28, 34, 35, 49]) m0 m2 := f1.tr f2 (RS_sub rfl)
    refine ⟨rfl, (stateNowS (d := d + 175) (q := 0) w2 s2 sm2 hx2.1 z2.1.2 (Or.inl ⟨rfl, rfl⟩)).to ?_⟩
    rintro r m3 ⟨w3, f3, s3, q⟩
    have F3 := F2.tr f3 (RS_sub (l2 := [22, 24, 28, 34, 35, 49]) rfl)
    have hl3 := hl2.fx f3 (fun _ => rfl) rfl
    have em3 := em2.fx f3 rfl
    have hP3 := hP2.fx f3 rfl rfl
    have hx3 := hx2.fx f3 rfl rfl
    rcases q with ⟨i, hi, ei, rfl, sm3⟩ | ⟨-, q, -⟩ | ⟨ni, -, rfl, sm3⟩
    · have e := E2 i (ixS_some sm.uq hi ei)
      subst e
      have ti : (nI i).toInt = (i : Int) := nI_toInt (by omega)
      have tt : (nI t).toInt = (t : Int) := nI_toInt (by omega)
      have e43 : m3.1 187 43 = m2.1 187 43 := by rw [sm3.c43, sm2.c43]
      refine ⟨_, rfl, fun c => absurd e43 c, fun _ => g_X12_findRest_62 (d := d + 176) ⟨fun _ => ?_, fun c => absurd c (by decide)⟩⟩
      have eS : nI t - nI i = nI (t - i) := nI_sb (a := t) (b := i) (by omega) (by omega)
      have tl : (nI (t - i)).toInt = ((t - i : Nat) : Int) := nI_toInt (by omega)
      rw [eS]
      have w4 : WT (uI (uI m3 187 45 (nI i)) 187 46 (nI (t - i))) := (w3.t rfl (by omega) (by omega)).t rfl (by omega) (by omega)
      have F4 : Fx (RS [22, 24, 28, 34, 35, 49]) m0 (uI (uI m3 187 45 (nI i)) 187 46 (nI (t - i))) := (F3.i rfl).i rfl
      have sm4 : SM (uI (uI m3 187 45 (nI i)) 187 46 (nI (t - i))) S := ⟨⟨sm3.1.1, sm3.1.2⟩, sm3.2.1, sm3.2.2⟩
      have hl4 : HL (nE v) 204 0 (uI (uI m3 187 45 (nI i)) 187 46 (nI (t - i))) g := hl3
      have em4 : EM (uI (uI m3 187 45 (nI i)) 187 46 (nI (t - i))) v := em3
      have fin := r_90 (ad := ad) (d := d) (T := (some i, S)) (x1 := 1) w4 F4 sm4 hl4 em4 (Or.inl ⟨i, t - i, rfl, hi, rfl, (u_ne (by omega)).trans u_eq, u_eq, by omega, by omega⟩)
      exact g_X12_findRest_18 (d := d + 176) ⟨fun _ => fin, fun _ => ⟨fun _ => fin, fun c => absurd c (by decide)⟩⟩
    · omega
    · have e := E3 (ixS_none ni)
      have e43 : ¬ m3.1 187 43 = m2.1 187 43 := fun z => by
        rw [sm3.c43, sm2.c43, adS_n] at z
        have := (nI_eq (a := nS S + 1) (b := nS S) (by omega) (by omega)).mp z
        omega
      refine ⟨_, rfl, fun _ => g_X12_findRest_62 (d := d + 176) ⟨fun c => absurd rfl c, fun _ => ?_⟩, fun c => absurd c e43⟩
      rw [nI_1]
      exact ih (t + 1) g2 _ m3 (by omega) (by rw [adS_n, hn]) e.symm ⟨w3, F3, s3, sm3, hl3, em3, hx3, hP3, z2, g22⟩
theorem findRestX (hp : PlnOK v pl) (w0 : WT m) (hm : HM (nE v) m g) (hE : EM m v) (hz : ZB v g) (hP : PlnM m pl) : Ct ad μX12_findRest (d + 177) [.ref (ad 187)] m (rQ v g (seaG v pl g) m) := by
  refine v_X12_findRest (d := d + 176) ((clearX (d := d + 175) w0 hm hE hz.1.1).to ?_)
  rintro _ m1 ⟨rfl, w1, f1, s1, t1, hx1, hl1⟩
  have em1 := hE.fx f1 rfl
  have sm1 : SM m1 (0, (fun _ => g.1), fun _ => 0) := ⟨t1, fun i hi => absurd hi (Nat.not_lt_zero i), fun i hi => absurd hi (Nat.not_lt_zero i)⟩
  refine ⟨rfl, (stateNowS (d := d + 175) (q := 0) w1 s1 sm1 hx1.1 hz.1.2 (Or.inl ⟨rfl, rfl⟩)).to ?_⟩
  rintro r m2 ⟨w2, f2, s2, q⟩
  rcases q with ⟨i, hi, -⟩ | ⟨-, q, -⟩ | ⟨-, -, rfl, sm2⟩
  · exact absurd hi (Nat.not_lt_zero i)
  · exact absurd (show (0 : Nat) < 3000 by decide) q
  rw [s0S_e] at sm2
  exact ⟨_, rfl, rest_18 (d := d) hp 2000 1 g (s0S g.1) m2 rfl rfl rfl ⟨w2, ((Fx.rf (S := RS [22, 24, 28, 34, 35, 49])).tr f1 (RS_sub rfl)).tr f2 (RS_sub rfl), s2, sm2, hl1.fx f2 (fun _ => rfl) rfl, em1.fx f2 rfl, hx1.fx f2 rfl rfl, (hP.fx f1 rfl rfl).fx f2 rfl rfl, hz, rfl⟩⟩
def nQ (v : EV) (g : GS) (m : Wm) (x : Int32) (r : Option Value) (m' : Wm) : Prop := WT m' ∧ Fx (RS [20, 22, 24, 26, 28, 34, 35, 49]) m m' ∧ HM (nE v) m' g ∧ r = some (.int x)
theorem e_restM {op : Option PLN} (w0 : WT m) (hm : HM (nE v) m g) (hE : EM m v) (hz : ZB v g) (hp : PlO v m op) : Ct ad μX12_rest (d + 178) [.ref (ad 187)] m (nQ v g m (restA v op g)) := by
  have n8 := hE.2.2.1
  have w1 : WT (uI m 187 17 0) := w0.n rfl
  have f1 : Fx (RS [20]) m (uI m 187 17 0) := Fx.i Fx.rf rfl
  have hm1 : HM (nE v) (uI m 187 17 0) g := hm
  have em1 : EM (uI m 187 17 0) v := hE
  have hp1 : PlO v (uI m 187 17 0) op := hp.fx f1 rfl rfl rfl rfl
  refine v_X12_rest (d := d + 177) ?_
  generalize uI m 187 17 0 = m1 at w1 f1 hm1 em1 hp1 ⊢
  have F1 : Fx (RS [20, 22, 24, 26, 28, 34, 35, 49]) m m1 := (Fx.rf (S := RS [20, 22, 24, 26, 28, 34, 35, 49])).tr f1 (RS_sub rfl)
  refine ⟨fun c => ?_, fun c => ?_⟩
  · cases op with
    | none => exact absurd (hp1.mm.mpr rfl) c
    | some pl =>
      obtain ⟨hok, -, hP⟩ := hp1
      refine (findRestX (d := d) hok w1 hm1 em1 hz hP).to ?_
      rintro r m2 ⟨w2, f2, hm2, hl2, em2, sm2, q⟩
      have F2 := F1.tr f2 (RS_sub (l2 := [20, 22, 24, 26, 28, 34, 35, 49]) rfl)
      rcases q with ⟨i, l, e, hi, rfl, c5, c6, l1, l2⟩ | ⟨e, rfl⟩
      · have t45 := w2.at (a := 187) (k := 45) rfl
        refine ⟨1, rfl, fun _ => (s_X12_load (d := d + 177) w2 (by omega) (by omega)).to ?_, fun q => absurd q (by decide)⟩
        rintro _ m3 ⟨w3, f3, rfl⟩
        refine ⟨rfl, (s_X12_sumOfAll (d := d + 176) w3).to ?_⟩
        rintro _ m4 ⟨w4, f4, v4, rfl⟩
        have hl4 := (hl2.fx f3 (fun _ => rfl) rfl).fx f4 (fun _ => rfl) rfl
        refine ⟨v4, rfl, (bringH (x := 0) (na := 57) rfl (by decide) (by decide) w4 hl4 (by decide)).to ?_⟩
        rintro _ m5 ⟨rfl, w5, f5, hm5⟩
        have w6 : WT (uI m5 187 16 (0 : Int32)) := w5.t rfl (by decide) (by decide)
        have f6 : Fx (RS [26]) m5 (uI m5 187 16 (0 : Int32)) := Fx.i Fx.rf rfl
        have hm6 : HM (nE v) (uI m5 187 16 (0 : Int32)) g := hm5
        refine ⟨rfl, (s_X12_tell w6 (by rw [u_eq]; decide)).to ?_⟩
        rintro _ m7 ⟨w7, f7, rfl, p7⟩
        have p7' : (m7.1 187 16).toInt = 0 + 1 := p7
        refine ⟨rfl, (s_X12_tell w7 (by omega)).to ?_⟩
        rintro _ m8 ⟨w8, f8, rfl, -⟩
        have F8 : Fx (RS [22, 24, 26, 28, 49]) m2 m8 := (((((((Fx.rf (S := RS [22, 24, 26, 28, 49])).tr f3 (RS_sub rfl)).tr f4 (RS_sub rfl)).tr f5 (RS_sub rfl)).tr f6 (RS_sub rfl)).tr f7 (RS_sub rfl)).tr f8 (RS_sub rfl))
        have e45 : m8.1 187 45 = nI i := (F8.at (nRS (ρ := 35) rfl rfl)).trans c5
        refine ⟨rfl, w8, F2.tr F8 (RS_sub rfl), (hm6.fx f7 rfl rfl).fx f8 rfl rfl, ?_⟩
        rw [e45]
        show some (Value.int (nI i)) = some (.int (match (seaG v pl g).1 with | none => (-3 : Int32) | some i => nI i))
        rw [e]
      · refine ⟨0, rfl, fun q => absurd rfl q, fun _ => ⟨w2, F2, hm2, ?_⟩⟩
        show some (Value.int (-3)) = some (.int (match (seaG v pl g).1 with | none => (-3 : Int32) | some i => nI i))
        rw [e]
  · have e := hp1.mm.mp c
    subst e
    exact ⟨w1, F1, hm1, rfl⟩
theorem e_meanM {op : Option PLN} {x1 x2 : Int32} (w0 : WT m) (hm : HM (nE v) m g) (hE : EM m v) (hz : ZB v g) (hp : PlO v m op) : Ct ad μX12_mean (d + 178) [.ref (ad 187), .int x1, .int x2] m (nQ v g m (meanA v op x1 x2 g)) := by
  have n8 := hE.2.2.1
  have w1 : WT (uI m 187 17 0) := w0.n rfl
  have f1 : Fx (RS [20]) m (uI m 187 17 0) := Fx.i Fx.rf rfl
  have hm1 : HM (nE v) (uI m 187 17 0) g := hm
  have em1 : EM (uI m 187 17 0) v := hE
  have hp1 : PlO v (uI m 187 17 0) op := hp.fx f1 rfl rfl rfl rfl
  refine v_X12_mean (d := d + 177) ?_
  generalize uI m 187 17 0 = m1 at w1 f1 hm1 em1 hp1 ⊢
  have F1 : Fx (RS [20, 22, 24, 26, 28, 34, 35, 49]) m m1 := (Fx.rf (S := RS [20, 22, 24, 26, 28, 34, 35, 49])).tr f1 (RS_sub rfl)
  have no : ¬ (InD (nE v) x1 ∧ InD (aE v) x2) → nQ v g m (meanA v op x1 x2 g) (some (.int (-1))) m1 := fun z => by
    have e : meanA v op x1 x2 g = -1 := if_neg z
    rw [e]
    exact ⟨w1, F1, hm1, rfl⟩
  refine (sideM (d := d + 176) (x := x1) em1.1 n8).to ?_
  rintro _ m2 ⟨eq, v1, rfl, y1, y2⟩
  obtain rfl := eq.symm
  refine ⟨v1, rfl, fun c => no (fun z => y1 c z.1), fun c => (knowM (d := d + 176) (x := x2) em1.2.1 (by have := em1.2.2.2.1; omega)).to ?_⟩
  rintro _ m2 ⟨eq, v2, rfl, y3, y4⟩
  obtain rfl := eq.symm
  refine ⟨v2, rfl, fun c => no (fun z => y3 c z.2), fun c2 => ?_⟩
  have hin : InD (nE v) x1 ∧ InD (aE v) x2 := ⟨y2 c, y4 c2⟩
  refine ⟨fun c => ?_, fun c => ?_⟩
  · cases op with
    | none => exact absurd (hp1.mm.mpr rfl) c
    | some pl =>
      obtain ⟨hok, -, hP⟩ := hp1
      have eA : meanA v (some pl) x1 x2 g = (match (seaG v pl g).1 with | none => (-3 : Int32) | some _ => 0) := if_pos hin
      rw [eA]
      obtain ⟨s, hs, rfl⟩ := (show InN (nE v) x1 from hin.1).of
      obtain ⟨a, ha, rfl⟩ := (show InN (aE v) x2 from hin.2).of
      have h4 := em1.2.2.2.1
      refine (findRestX (d := d) hok w1 hm1 em1 hz hP).to ?_
      rintro r m2 ⟨w2, f2, hm2, hl2, em2, sm2, q⟩
      have F2 := F1.tr f2 (RS_sub (l2 := [20, 22, 24, 26, 28, 34, 35, 49]) rfl)
      rcases q with ⟨i, l, e, hi, rfl, c5, c6, l1, l2⟩ | ⟨e, rfl⟩
      · refine ⟨1, rfl, fun _ => ?_, fun q => absurd q (by decide)⟩
        rw [e, c5]
        have ts : (nI s).toInt = (s : Int) := nI_toInt (by omega)
        have ta : (nI a).toInt = (a : Int) := nI_toInt (by omega)
        have L : ∀ k j (m3 : Wm) (y3 : Int64), j + k = i + l → WT m3 → Fx (RS []) m2 m3 → AW ad E0 μX12_mean (d + 178) (nQ v g m 0) 48 [(0, .ref (ad 187)), (1, .int (nI s)), (2, .int (nI a)), (3, .long y3), (5, .int (nI j))] [] m3 := by
          intro k
          induction k with
          | zero =>
            intro j m3 y3 hj w3 f3
            obtain rfl : j = i + l := hj
            have e5 : m3.1 187 45 = nI i := (f3.at (nRS (ρ := 35) rfl rfl)).trans c5
            have e6 : m3.1 187 46 = nI l := (f3.at (nRS (ρ := 35) rfl rfl)).trans c6
            refine g_X12_mean_48 (d := d + 177) ⟨fun _ => ?_, fun z => absurd (by rw [e5, e6, nI_add]; exact (nI_leI (by omega) (by omega)).mpr (Nat.le_refl _)) z⟩
            have w4 : WT (uI m3 187 16 (0 : Int32)) := w3.t rfl (by decide) (by decide)
            have f4 : Fx (RS [26]) m3 (uI m3 187 16 (0 : Int32)) := Fx.i Fx.rf rfl
            have hm4 : HM (nE v) (uI m3 187 16 (0 : Int32)) g := (hm2.fx f3 rfl rfl).fx f4 rfl rfl
            have ne : ((uI m3 187 16 (0 : Int32)).1 187 46).toInt64 ≠ 0 := by
              have e7 : (uI m3 187 16 (0 : Int32)).1 187 46 = nI l := e6
              rw [e7]
              exact wide_ne (by rw [nI_toInt (by omega)]; omega)
            refine (s_X12_tellPart (d := d + 37) w4 ne (by rw [u_eq]; decide)).to ?_
            rintro _ m5 ⟨w5, f5, rfl, -⟩
            exact ⟨rfl, w5, (((F2.tr f3 (RS_sub rfl)).tr f4 (RS_sub rfl)).tr f5 (RS_sub rfl)), hm4.fx f5 rfl rfl, rfl⟩
          | succ k ih =>
            intro j m3 y3 hj w3 f3
            have e5 : m3.1 187 45 = nI i := (f3.at (nRS (ρ := 35) rfl rfl)).trans c5
            have e6 : m3.1 187 46 = nI l := (f3.at (nRS (ρ := 35) rfl rfl)).trans c6
            have tj : (nI j).toInt = (j : Int) := nI_toInt (by omega)
            refine g_X12_mean_48 (d := d + 177) ⟨fun z => absurd (by rw [e5, e6, nI_add] at z; exact (nI_leI (by omega) (by omega)).mp z) (by omega), fun _ => (s_X12_skillIn w3 (by omega) (by omega) (by omega) (by omega) (by omega) (by omega)).to ?_⟩
            rintro _ m4 ⟨w4, f4, v4, rfl⟩
            rw [nI_1]
            exact ⟨v4, rfl, ih (j + 1) m4 _ (by omega) w4 (f3.tr f4 (RS_sub rfl))⟩
        exact L l i m2 0 rfl w2 Fx.rf
      · exact ⟨0, rfl, fun q => absurd rfl q, fun _ => ⟨w2, F2, hm2, by rw [e]⟩⟩
  · have e := hp1.mm.mp c
    subst e
    have eA : meanA v none x1 x2 g = -1 := if_pos hin
    rw [eA]
    exact ⟨w1, F1, hm1, rfl⟩
theorem e_soonM {op : Option PLN} {x1 x2 x3 : Int32} (w0 : WT m) (hm : HM (nE v) m g) (hE : EM m v) (hz : ZB v g) (hp : PlO v m op) : Ct ad μX12_soon (d + 178) [.ref (ad 187), .int x1, .int x2, .int x3] m (nQ v g m (soonA v op x1 x2 x3 g)) := by
  have n8 := hE.2.2.1
  have w1 : WT (uI m 187 17 0) := w0.n rfl
  have f1 : Fx (RS [20]) m (uI m 187 17 0) := Fx.i Fx.rf rfl
  have hm1 : HM (nE v) (uI m 187 17 0) g := hm
  have em1 : EM (uI m 187 17 0) v := hE
  have hp1 : PlO v (uI m 187 17 0) op := hp.fx f1 rfl rfl rfl rfl
  refine v_X12_soon (d := d + 177) ?_
  generalize uI m 187 17 0 = m1 at w1 f1 hm1 em1 hp1 ⊢
  have F1 : Fx (RS [20, 22, 24, 26, 28, 34, 35, 49]) m m1 := (Fx.rf (S := RS [20, 22, 24, 26, 28, 34, 35, 49])).tr f1 (RS_sub rfl)
  have no : ¬ (InD (nE v) x1 ∧ InD (aE v) x2 ∧ 0 ≤ x3.toInt ∧ x3.toInt ≤ 7) → nQ v g m (soonA v op x1 x2 x3 g) (some (.int (-1))) m1 := fun z => by
    have e : soonA v op x1 x2 x3 g = -1 := if_neg z
    rw [e]
    exact ⟨w1, F1, hm1, rfl⟩
  refine (sideM (d := d + 176) (x := x1) em1.1 n8).to ?_
  rintro _ m2 ⟨eq, v1, rfl, y1, y2⟩
  obtain rfl := eq.symm
  refine ⟨v1, rfl, fun c => no (fun z => y1 c z.1), fun c => (knowM (d := d + 176) (x := x2) em1.2.1 (by have := em1.2.2.2.1; omega)).to ?_⟩
  rintro _ m2 ⟨eq, v2, rfl, y3, y4⟩
  obtain rfl := eq.symm
  refine ⟨v2, rfl, fun c => no (fun z => y3 c z.2.1), fun c2 => (inM (d := d + 177) (x := x3) (lo := 0) (hi := 7) rfl rfl).to ?_⟩
  rintro _ m2 ⟨eq, v3, rfl, y5, y6⟩
  obtain rfl := eq.symm
  have z0 : (0 : Int32).toInt = 0 := rfl
  have z7 : (7 : Int32).toInt = 7 := rfl
  refine ⟨v3, rfl, fun c3 => no (fun z => y5 c3 ⟨by omega, by omega⟩), fun c3 => ?_⟩
  have h1 := y2 c
  have h2 := y4 c2
  have h3 := y6 c3
  obtain ⟨s, hs, rfl⟩ := h1.of
  obtain ⟨a, ha, rfl⟩ := h2.of
  have h4 := em1.2.2.2.1
  refine ⟨fun c => ?_, fun c => ?_⟩
  · cases op with
    | none => exact absurd (hp1.mm.mpr rfl) c
    | some pl =>
      obtain ⟨hok, -, hP⟩ := hp1
      have eA : soonA v (some pl) (nI s) (nI a) x3 g = soA (seaG v pl g).1 (fstI (skB (seaG v pl g).2 s a x3) (nS (seaG v pl g).2) 0) := by
        unfold soonA
        rw [if_pos ⟨h1, h2, by omega, by omega⟩, nI_clamp (by omega), nI_clamp (by omega)]
      rw [eA]
      refine (findRestX (d := d) hok w1 hm1 em1 hz hP).to ?_
      rintro r m2 ⟨w2, f2, hm2, hl2, em2, sm2, q⟩
      have F2 := F1.tr f2 (RS_sub (l2 := [20, 22, 24, 26, 28, 34, 35, 49]) rfl)
      generalize seaG v pl g = T at sm2 q ⊢
      obtain ⟨o, S⟩ := T
      have hN : nS S ≤ 3000 := sm2.n
      have c43 : m2.1 187 43 = nI (nS S) := sm2.c43
      have L : ∀ (x8 : Int32), ((o = none ∧ x8 = 0) ∨ (∃ i, o = some i ∧ x8 = 1)) → ∀ k i, i + k = nS S → fstI (skB S s a x3) (nS S) 0 = fstI (skB S s a x3) k i → AW ad E0 μX12_soon (d + 178) (nQ v g m (soA o (fstI (skB S s a x3) (nS S) 0))) 51 [(0, .ref (ad 187)), (1, .int (nI s)), (2, .int (nI a)), (3, .int x3), (4, .int x8), (5, .int (nI i))] [] m2 := by
        intro x8 h8 k
        induction k with
        | zero =>
          intro i hi hf
          obtain rfl : i = nS S := hi
          rw [hf]
          refine g_X12_soon_51 (d := d + 177) ⟨fun _ => ⟨fun q8 => ⟨w2, F2, hm2, ?_⟩, fun q8 => ⟨w2, F2, hm2, ?_⟩⟩, fun z => absurd (by rw [c43]; exact (nI_leI (by omega) (by omega)).mpr (Nat.le_refl _)) z⟩
          · rcases h8 with ⟨rfl, -⟩ | ⟨i, -, q⟩
            · rfl
            · rw [q] at q8; exact absurd q8 (by decide)
          · rcases h8 with ⟨-, q⟩ | ⟨i, rfl, -⟩
            · exact absurd q q8
            · rfl
        | succ k ih =>
          intro i hi hf
          obtain ⟨a1, a2, a3⟩ := sm2.2.1 i (show i < nS S by omega)
          refine g_X12_soon_51 (d := d + 177) ⟨fun z => absurd (by rw [c43] at z; exact (nI_leI (by omega) (by omega)).mp z) (by omega), fun _ => (getM (d := d + 177) a1 a2 a3 (by omega) (s := s) (a := a) (by omega) (by omega)).to ?_⟩
          rintro _ m3 ⟨eq, rfl⟩
          obtain rfl := eq.symm
          refine ⟨_, rfl, fun z => ?_, fun z => ⟨w2, F2, hm2, ?_⟩⟩
          · have e1 : skB S s a x3 i = false := by
              have z' : kS S i (4 * s + a) < x3 := z
              unfold skB
              rw [decide_eq_true z']
              rfl
            rw [fst_n e1] at hf
            rw [nI_1]
            exact ih (i + 1) (by omega) hf
          · have e1 : skB S s a x3 i = true := by
              have z' : ¬ kS S i (4 * s + a) < x3 := z
              unfold skB
              rw [decide_eq_false z']
              rfl
            rw [fst_y e1] at hf
            rw [hf]
            rfl
      rcases q with ⟨i, l, e, hi, rfl, -⟩ | ⟨e, rfl⟩
      · exact ⟨1, rfl, L 1 (Or.inr ⟨i, e, rfl⟩) (nS S) 0 (by omega) rfl⟩
      · exact ⟨0, rfl, L 0 (Or.inl ⟨e, rfl⟩) (nS S) 0 (by omega) rfl⟩
  · have e := hp1.mm.mp c
    subst e
    have eA : soonA v none (nI s) (nI a) x3 g = -1 := by
      unfold soonA
      rw [if_pos ⟨h1, h2, by omega, by omega⟩]
    rw [eA]
    exact ⟨w1, F1, hm1, rfl⟩
theorem og_rest (c : Nat) : Both ad d μX11_rest μX12_rest [] (InvK (KX KG c)) (InvK (KX KG (c + 1))) := og_x (R := [2, 9, 10, 12, 14]) (B := [20, 22, 24, 26, 28, 34, 35, 49]) (A := fun v op g => restA v op g) (fun m g v _ w s hc he hz hp => e_restC (d := d + 293) w s hc he hz hp) (fun m g v _ w hm he hz hp => e_restM (d := d + 122) w hm he hz hp) rfl rfl rfl rfl rfl rfl rfl
theorem og_mean (c : Nat) (x1 x2 : Int32) : Both ad d μX11_mean μX12_mean [.int x1, .int x2] (InvK (KX KG c)) (InvK (KX KG (c + 1))) := og_x (R := [2, 9, 10, 12, 14]) (B := [20, 22, 24, 26, 28, 34, 35, 49]) (A := fun v op g => meanA v op x1 x2 g) (fun m g v _ w s hc he hz hp => e_meanC (d := d + 293) w s hc he hz hp) (fun m g v _ w hm he hz hp => e_meanM (d := d + 122) w hm he hz hp) rfl rfl rfl rfl rfl rfl rfl
theorem og_soon (c : Nat) (x1 x2 x3 : Int32) : Both ad d μX11_soon μX12_soon [.int x1, .int x2, .int x3] (InvK (KX KG c)) (InvK (KX KG (c + 1))) := og_x (R := [2, 9, 10, 12, 14]) (B := [20, 22, 24, 26, 28, 34, 35, 49]) (A := fun v op g => soonA v op x1 x2 x3 g) (fun m g v _ w s hc he hz hp => e_soonC (d := d + 293) w s hc he hz hp) (fun m g v _ w hm he hz hp => e_soonM (d := d + 122) w hm he hz hp) rfl rfl rfl rfl rfl rfl rfl
end SEA
